def tb_D_removeDead : List (Nat × Instr × Nat) := [(0, .aload_n 0, 1),
  (1, .getfield 87, 3),
  (4, .getfield 134, 3),
  (7, .istore_n 1, 1),
  (8, .aload_n 0, 1),
  (9, .getfield 33, 3),
  (12, .aload_n 0, 1),
  (13, .getfield 87, 3),
  (16, .invokevirtual 368, 3),
  (19, .iconst 1, 1),
  (20, .istore_n 2, 1),
  (21, .iconst 0, 1),
  (22, .istore_n 3, 1),
  (23, .iload_n 2, 1),
  (24, .ifCond .eq 28, 3),
  (27, .iload_n 3, 1),
  (28, .bipush 40, 2),
  (30, .if_icmp .gt 22, 3),
  (33, .aload_n 0, 1),
  (34, .aload_n 0, 1),
  (35, .invokevirtual 225, 3),
  (38, .invokevirtual 387, 3),
  (41, .istore_n 2, 1),
  (42, .aload_n 0, 1),
  (43, .invokevirtual 374, 3),
  (46, .iinc 3 1, 3),
  (49, .goto (-26), 3),
  (52, .iload_n 1, 1),
  (53, .aload_n 0, 1),
  (54, .getfield 87, 3),
  (57, .getfield 134, 3),
  (60, .isub, 1),
  (61, .ireturn, 1)]
def mi_D_removeDead : mi_T := ("DataflowLab", ({ cls := "DataflowLab", name := "removeDead", desc := "()I" } : MethodName), prog_1_method_54_code, 4, (Option.some FieldType.int), [], tb_D_removeDead)
theorem mo_D_removeDead : mi_ok mi_D_removeDead := by
  show ∀ q ∈ tb_D_removeDead, decode prog_1_method_54_code q.1 = .ok q.2
  decide +kernel
theorem mw_D_removeDead : mi_w mi_D_removeDead 0 := ⟨tb_m 1095 (by decide +kernel) (by decide +kernel), tb_m 144 (by decide +kernel) rfl, ⟨by decide +kernel, by decide +kernel, by decide +kernel⟩, by decide +kernel⟩
theorem mv_D_removeDead : mi_wV mi_D_removeDead := ⟨tb_m 1093 (by decide +kernel) rfl, tb_m 1094 (by decide +kernel) rfl⟩
def tb_P_replace : List (Nat × Instr × Nat) := [(0, .aload_n 0, 1),
  (1, .getfield 9, 3),
  (4, .iload_n 1, 1),
  (5, .iload_n 2, 1),
  (6, .invokestatic 49, 3),
  (9, .return_, 1)]
def mi_P_replace : mi_T := ("DataflowLab$Program", ({ cls := "DataflowLab$Program", name := "replace", desc := "(II)V" } : MethodName), prog_10_method_18_code, 3, (Option.none : Option FieldType), [], tb_P_replace)
theorem mo_P_replace : mi_ok mi_P_replace := by
  show ∀ q ∈ tb_P_replace, decode prog_10_method_18_code q.1 = .ok q.2
  decide +kernel
theorem mw_P_replace : mi_w mi_P_replace 2 := ⟨tb_m 1132 (by decide +kernel) (by decide +kernel), tb_m 145 (by decide +kernel) rfl, ⟨by decide +kernel, by decide +kernel, by decide +kernel⟩, by decide +kernel⟩
theorem mv_P_replace : mi_wV mi_P_replace := ⟨tb_m 1130 (by decide +kernel) rfl, tb_m 1131 (by decide +kernel) rfl⟩
def tb_D_foldConstants : List (Nat × Instr × Nat) := [(0, .aload_n 0, 1),
  (1, .invokevirtual 284, 3),
  (4, .astore_n 1, 1),
  (5, .aload_n 0, 1),
  (6, .getfield 33, 3),
  (9, .aload_n 0, 1),
  (10, .getfield 87, 3),
  (13, .invokevirtual 368, 3),
  (16, .iconst 0, 1),
  (17, .istore_n 2, 1),
  (18, .iconst 0, 1),
  (19, .istore_n 3, 1),
  (20, .iload_n 3, 1),
  (21, .aload_n 0, 1),
  (22, .getfield 87, 3),
  (25, .getfield 134, 3),
  (28, .if_icmp .ge 68, 3),
  (31, .aload_n 0, 1),
  (32, .getfield 87, 3),
  (35, .iload_n 3, 1),
  (36, .invokevirtual 150, 3),
  (39, .istore 4, 2),
  (41, .aload_n 1, 1),
  (42, .iload_n 3, 1),
  (43, .invokevirtual 291, 3),
  (46, .istore 5, 2),
  (48, .iload 4, 2),
  (50, .iconst 1, 1),
  (51, .if_icmp .eq 9, 3),
  (54, .iload 4, 2),
  (56, .iconst 2, 1),
  (57, .if_icmp .ne 33, 3),
  (60, .iload 5, 2),
  (62, .iconst (-1), 1),
  (63, .if_icmp .eq 27, 3),
  (66, .aload_n 0, 1),
  (67, .getfield 87, 3),
  (70, .iload_n 3, 1),
  (71, .aload_n 0, 1),
  (72, .getfield 87, 3),
  (75, .iload_n 3, 1),
  (76, .invokevirtual 391, 3),
  (79, .iload 5, 2),
  (81, .invokestatic 352, 3),
  (84, .invokevirtual 394, 3),
  (87, .iinc 2 1, 3),
  (90, .iinc 3 1, 3),
  (93, .goto (-73), 3),
  (96, .aload_n 0, 1),
  (97, .invokevirtual 374, 3),
  (100, .iload_n 2, 1),
  (101, .ireturn, 1)]
def mi_D_foldConstants : mi_T := ("DataflowLab", ({ cls := "DataflowLab", name := "foldConstants", desc := "()I" } : MethodName), prog_1_method_55_code, 6, (Option.some FieldType.int), [], tb_D_foldConstants)
theorem mo_D_foldConstants : mi_ok mi_D_foldConstants := by
  show ∀ q ∈ tb_D_foldConstants, decode prog_1_method_55_code q.1 = .ok q.2
  decide +kernel
theorem mw_D_foldConstants : mi_w mi_D_foldConstants 0 := ⟨tb_m 1118 (by decide +kernel) (by decide +kernel), tb_m 144 (by decide +kernel) rfl, ⟨by decide +kernel, by decide +kernel, by decide +kernel⟩, by decide +kernel⟩
theorem mv_D_foldConstants : mi_wV mi_D_foldConstants := ⟨tb_m 1116 (by decide +kernel) rfl, tb_m 1117 (by decide +kernel) rfl⟩
def tb_W_clear : List (Nat × Instr × Nat) := [(0, .aload_n 0, 1),
  (1, .iconst 0, 1),
  (2, .putfield 15, 3),
  (5, .return_, 1)]
def mi_W_clear : mi_T := ("DataflowLab$Writer", ({ cls := "DataflowLab$Writer", name := "clear", desc := "()V" } : MethodName), prog_12_method_2_code, 1, (Option.none : Option FieldType), [], tb_W_clear)
theorem mo_W_clear : mi_ok mi_W_clear := by
  show ∀ q ∈ tb_W_clear, decode prog_12_method_2_code q.1 = .ok q.2
  decide +kernel
theorem mw_W_clear : mi_w mi_W_clear 0 := ⟨tb_m 1707 (by decide +kernel) (by decide +kernel), tb_m 147 (by decide +kernel) rfl, ⟨by decide +kernel, by decide +kernel, by decide +kernel⟩, by decide +kernel⟩
theorem mv_W_clear : mi_wV mi_W_clear := ⟨tb_m 1705 (by decide +kernel) rfl, tb_m 1706 (by decide +kernel) rfl⟩
def tb_P_endOf : List (Nat × Instr × Nat) := [(0, .aload_n 0, 1),
  (1, .getfield 15, 3),
  (4, .iload_n 1, 1),
  (5, .iconst 1, 1),
  (6, .iadd, 1),
  (7, .invokestatic 41, 3),
  (10, .ireturn, 1)]
def mi_P_endOf : mi_T := ("DataflowLab$Program", ({ cls := "DataflowLab$Program", name := "endOf", desc := "(I)I" } : MethodName), prog_10_method_7_code, 2, (Option.some FieldType.int), [], tb_P_endOf)
theorem mo_P_endOf : mi_ok mi_P_endOf := by
  show ∀ q ∈ tb_P_endOf, decode prog_10_method_7_code q.1 = .ok q.2
  decide +kernel
theorem mw_P_endOf : mi_w mi_P_endOf 1 := ⟨tb_m 1711 (by decide +kernel) (by decide +kernel), tb_m 145 (by decide +kernel) rfl, ⟨by decide +kernel, by decide +kernel, by decide +kernel⟩, by decide +kernel⟩
theorem mv_P_endOf : mi_wV mi_P_endOf := ⟨tb_m 1709 (by decide +kernel) rfl, tb_m 1710 (by decide +kernel) rfl⟩
def tb_W_writeByte : List (Nat × Instr × Nat) := [(0, .aload_n 0, 1),
  (1, .getfield 9, 3),
  (4, .aload_n 0, 1),
  (5, .getfield 15, 3),
  (8, .iload_n 1, 1),
  (9, .invokestatic 87, 3),
  (12, .aload_n 0, 1),
  (13, .dup, 1),
  (14, .getfield 15, 3),
  (17, .iconst 1, 1),
  (18, .iadd, 1),
  (19, .putfield 15, 3),
  (22, .return_, 1)]
def mi_W_writeByte : mi_T := ("DataflowLab$Writer", ({ cls := "DataflowLab$Writer", name := "writeByte", desc := "(I)V" } : MethodName), prog_12_method_6_code, 2, (Option.none : Option FieldType), [], tb_W_writeByte)
theorem mo_W_writeByte : mi_ok mi_W_writeByte := by
  show ∀ q ∈ tb_W_writeByte, decode prog_12_method_6_code q.1 = .ok q.2
  decide +kernel
theorem mw_W_writeByte : mi_w mi_W_writeByte 1 := ⟨tb_m 1728 (by decide +kernel) (by decide +kernel), tb_m 147 (by decide +kernel) rfl, ⟨by decide +kernel, by decide +kernel, by decide +kernel⟩, by decide +kernel⟩
theorem mv_W_writeByte : mi_wV mi_W_writeByte := ⟨tb_m 1727 (by decide +kernel) rfl, tb_m 47 (by decide +kernel) rfl⟩
def tb_W_writeText : List (Nat × Instr × Nat) := [(0, .iconst 0, 1),
  (1, .istore_n 2, 1),
  (2, .iload_n 2, 1),
  (3, .aload_n 1, 1),
  (4, .invokevirtual 91, 3),
  (7, .if_icmp .ge 18, 3),
  (10, .aload_n 0, 1),
  (11, .aload_n 1, 1),
  (12, .iload_n 2, 1),
  (13, .invokevirtual 96, 3),
  (16, .invokevirtual 66, 3),
  (19, .iinc 2 1, 3),
  (22, .goto (-20), 3),
  (25, .return_, 1)]
def mi_W_writeText : mi_T := ("DataflowLab$Writer", ({ cls := "DataflowLab$Writer", name := "writeText", desc := "(Ljava/lang/String;)V" } : MethodName), prog_12_method_7_code, 3, (Option.none : Option FieldType), [], tb_W_writeText)
theorem mo_W_writeText : mi_ok mi_W_writeText := by
  show ∀ q ∈ tb_W_writeText, decode prog_12_method_7_code q.1 = .ok q.2
  decide +kernel
theorem mw_W_writeText : mi_w mi_W_writeText 1 := ⟨tb_m 1722 (by decide +kernel) (by decide +kernel), tb_m 147 (by decide +kernel) rfl, ⟨by decide +kernel, by decide +kernel, by decide +kernel⟩, by decide +kernel⟩
theorem mv_W_writeText : mi_wV mi_W_writeText := ⟨tb_m 1721 (by decide +kernel) rfl, tb_m 46 (by decide +kernel) rfl⟩
def tb_W_writeVariable : List (Nat × Instr × Nat) := [(0, .aload_n 0, 1),
  (1, .bipush 32, 2),
  (3, .invokevirtual 66, 3),
  (6, .aload_n 0, 1),
  (7, .bipush 97, 2),
  (9, .iload_n 1, 1),
  (10, .iadd, 1),
  (11, .invokevirtual 66, 3),
  (14, .return_, 1)]
def mi_W_writeVariable : mi_T := ("DataflowLab$Writer", ({ cls := "DataflowLab$Writer", name := "writeVariable", desc := "(I)V" } : MethodName), prog_12_method_9_code, 2, (Option.none : Option FieldType), [], tb_W_writeVariable)
theorem mo_W_writeVariable : mi_ok mi_W_writeVariable := by
  show ∀ q ∈ tb_W_writeVariable, decode prog_12_method_9_code q.1 = .ok q.2
  decide +kernel
theorem mw_W_writeVariable : mi_w mi_W_writeVariable 1 := ⟨tb_m 1734 (by decide +kernel) (by decide +kernel), tb_m 147 (by decide +kernel) rfl, ⟨by decide +kernel, by decide +kernel, by decide +kernel⟩, by decide +kernel⟩
theorem mv_W_writeVariable : mi_wV mi_W_writeVariable := ⟨tb_m 1733 (by decide +kernel) rfl, tb_m 48 (by decide +kernel) rfl⟩
def tb_W_writeNumber : List (Nat × Instr × Nat) := [(0, .aload_n 0, 1),
  (1, .bipush 32, 2),
  (3, .invokevirtual 66, 3),
  (6, .iload_n 1, 1),
  (7, .bipush 100, 2),
  (9, .if_icmp .lt 14, 3),
  (12, .aload_n 0, 1),
  (13, .bipush 48, 2),
  (15, .iload_n 1, 1),
  (16, .bipush 100, 2),
  (18, .idiv, 1),
  (19, .iadd, 1),
  (20, .invokevirtual 66, 3),
  (23, .iload_n 1, 1),
  (24, .bipush 10, 2),
  (26, .if_icmp .lt 17, 3),
  (29, .aload_n 0, 1),
  (30, .bipush 48, 2),
  (32, .iload_n 1, 1),
  (33, .bipush 10, 2),
  (35, .idiv, 1),
  (36, .bipush 10, 2),
  (38, .irem, 1),
  (39, .iadd, 1),
  (40, .invokevirtual 66, 3),
  (43, .aload_n 0, 1),
  (44, .bipush 48, 2),
  (46, .iload_n 1, 1),
  (47, .bipush 10, 2),
  (49, .irem, 1),
  (50, .iadd, 1),
  (51, .invokevirtual 66, 3),
  (54, .return_, 1)]
def mi_W_writeNumber : mi_T := ("DataflowLab$Writer", ({ cls := "DataflowLab$Writer", name := "writeNumber", desc := "(I)V" } : MethodName), prog_12_method_10_code, 2, (Option.none : Option FieldType), [], tb_W_writeNumber)
theorem mo_W_writeNumber : mi_ok mi_W_writeNumber := by
  show ∀ q ∈ tb_W_writeNumber, decode prog_12_method_10_code q.1 = .ok q.2
  decide +kernel
theorem mw_W_writeNumber : mi_w mi_W_writeNumber 1 := ⟨tb_m 1739 (by decide +kernel) (by decide +kernel), tb_m 147 (by decide +kernel) rfl, ⟨by decide +kernel, by decide +kernel, by decide +kernel⟩, by decide +kernel⟩
theorem mv_W_writeNumber : mi_wV mi_W_writeNumber := ⟨tb_m 1738 (by decide +kernel) rfl, tb_m 49 (by decide +kernel) rfl⟩
def tb_W_writeOperator : List (Nat × Instr × Nat) := [(0, .iload_n 1, 1),
  (1, .ifCond .ne 12, 3),
  (4, .aload_n 0, 1),
  (5, .ldc 100, 2),
  (7, .invokevirtual 31, 3),
  (10, .goto 19, 3),
  (13, .aload_n 0, 1),
  (14, .iload_n 1, 1),
  (15, .iconst 1, 1),
  (16, .if_icmp .ne 8, 3),
  (19, .ldc 102, 2),
  (21, .goto 5, 3),
  (24, .ldc 104, 2),
  (26, .invokevirtual 31, 3),
  (29, .return_, 1)]
def mi_W_writeOperator : mi_T := ("DataflowLab$Writer", ({ cls := "DataflowLab$Writer", name := "writeOperator", desc := "(I)V" } : MethodName), prog_12_method_8_code, 2, (Option.none : Option FieldType), [], tb_W_writeOperator)
theorem mo_W_writeOperator : mi_ok mi_W_writeOperator := by
  show ∀ q ∈ tb_W_writeOperator, decode prog_12_method_8_code q.1 = .ok q.2
  decide +kernel
theorem mw_W_writeOperator : mi_w mi_W_writeOperator 1 := ⟨tb_m 1747 (by decide +kernel) (by decide +kernel), tb_m 147 (by decide +kernel) rfl, ⟨by decide +kernel, by decide +kernel, by decide +kernel⟩, by decide +kernel⟩
theorem mv_W_writeOperator : mi_wV mi_W_writeOperator := ⟨tb_m 1746 (by decide +kernel) rfl, tb_m 50 (by decide +kernel) rfl⟩
def tb_W_writeInstruction : List (Nat × Instr × Nat) := [(0, .iload_n 1, 1),
  (1, .invokestatic 23, 3),
  (4, .istore_n 2, 1),
  (5, .iload_n 2, 1),
  (6, .ifCond .ne 28, 3),
  (9, .aload_n 0, 1),
  (10, .ldc 29, 2),
  (12, .invokevirtual 31, 3),
  (15, .aload_n 0, 1),
  (16, .iload_n 1, 1),
  (17, .invokestatic 35, 3),
  (20, .invokevirtual 38, 3),
  (23, .aload_n 0, 1),
  (24, .iload_n 1, 1),
  (25, .invokestatic 42, 3),
  (28, .invokevirtual 45, 3),
  (31, .goto 93, 3),
  (34, .iload_n 2, 1),
  (35, .iconst 1, 1),
  (36, .if_icmp .ne 28, 3),
  (39, .aload_n 0, 1),
  (40, .ldc 48, 2),
  (42, .invokevirtual 31, 3),
  (45, .aload_n 0, 1),
  (46, .iload_n 1, 1),
  (47, .invokestatic 35, 3),
  (50, .invokevirtual 38, 3),
  (53, .aload_n 0, 1),
  (54, .iload_n 1, 1),
  (55, .invokestatic 50, 3),
  (58, .invokevirtual 38, 3),
  (61, .goto 63, 3),
  (64, .iload_n 2, 1),
  (65, .iconst 2, 1),
  (66, .if_icmp .ne 44, 3),
  (69, .aload_n 0, 1),
  (70, .ldc 53, 2),
  (72, .invokevirtual 31, 3),
  (75, .aload_n 0, 1),
  (76, .iload_n 1, 1),
  (77, .invokestatic 35, 3),
  (80, .invokevirtual 38, 3),
  (83, .aload_n 0, 1),
  (84, .iload_n 1, 1),
  (85, .invokestatic 50, 3),
  (88, .invokevirtual 38, 3),
  (91, .aload_n 0, 1),
  (92, .iload_n 1, 1),
  (93, .invokestatic 55, 3),
  (96, .invokevirtual 58, 3),
  (99, .aload_n 0, 1),
  (100, .iload_n 1, 1),
  (101, .invokestatic 61, 3),
  (104, .invokevirtual 38, 3),
  (107, .goto 17, 3),
  (110, .aload_n 0, 1),
  (111, .ldc 64, 2),
  (113, .invokevirtual 31, 3),
  (116, .aload_n 0, 1),
  (117, .iload_n 1, 1),
  (118, .invokestatic 50, 3),
  (121, .invokevirtual 38, 3),
  (124, .aload_n 0, 1),
  (125, .bipush 59, 2),
  (127, .invokevirtual 66, 3),
  (130, .return_, 1)]
def mi_W_writeInstruction : mi_T := ("DataflowLab$Writer", ({ cls := "DataflowLab$Writer", name := "writeInstruction", desc := "(I)V" } : MethodName), prog_12_method_4_code, 3, (Option.none : Option FieldType), [], tb_W_writeInstruction)
theorem mo_W_writeInstruction : mi_ok mi_W_writeInstruction := by
  show ∀ q ∈ tb_W_writeInstruction, decode prog_12_method_4_code q.1 = .ok q.2
  decide +kernel
theorem mw_W_writeInstruction : mi_w mi_W_writeInstruction 1 := ⟨tb_m 1716 (by decide +kernel) (by decide +kernel), tb_m 147 (by decide +kernel) rfl, ⟨by decide +kernel, by decide +kernel, by decide +kernel⟩, by decide +kernel⟩
theorem mv_W_writeInstruction : mi_wV mi_W_writeInstruction := ⟨tb_m 1714 (by decide +kernel) rfl, tb_m 1715 (by decide +kernel) rfl⟩
def tb_W_writeExit : List (Nat × Instr × Nat) := [(0, .aload_n 1, 1),
  (1, .iload_n 2, 1),
  (2, .invokevirtual 69, 3),
  (5, .istore_n 3, 1),
  (6, .iload_n 3, 1),
  (7, .ifCond .ne 12, 3),
  (10, .aload_n 0, 1),
  (11, .ldc 74, 2),
  (13, .invokevirtual 31, 3),
  (16, .goto 62, 3),
  (19, .iload_n 3, 1),
  (20, .iconst 1, 1),
  (21, .if_icmp .ne 22, 3),
  (24, .aload_n 0, 1),
  (25, .ldc 76, 2),
  (27, .invokevirtual 31, 3),
  (30, .aload_n 0, 1),
  (31, .aload_n 1, 1),
  (32, .iload_n 2, 1),
  (33, .iconst 0, 1),
  (34, .invokevirtual 78, 3),
  (37, .invokevirtual 45, 3),
  (40, .goto 38, 3),
  (43, .aload_n 0, 1),
  (44, .ldc 82, 2),
  (46, .invokevirtual 31, 3),
  (49, .aload_n 0, 1),
  (50, .aload_n 1, 1),
  (51, .iload_n 2, 1),
  (52, .invokevirtual 84, 3),
  (55, .invokevirtual 38, 3),
  (58, .aload_n 0, 1),
  (59, .aload_n 1, 1),
  (60, .iload_n 2, 1),
  (61, .iconst 0, 1),
  (62, .invokevirtual 78, 3),
  (65, .invokevirtual 45, 3),
  (68, .aload_n 0, 1),
  (69, .aload_n 1, 1),
  (70, .iload_n 2, 1),
  (71, .iconst 1, 1),
  (72, .invokevirtual 78, 3),
  (75, .invokevirtual 45, 3),
  (78, .aload_n 0, 1),
  (79, .bipush 59, 2),
  (81, .invokevirtual 66, 3),
  (84, .return_, 1)]
def mi_W_writeExit : mi_T := ("DataflowLab$Writer", ({ cls := "DataflowLab$Writer", name := "writeExit", desc := "(LDataflowLab$Program;I)V" } : MethodName), prog_12_method_5_code, 4, (Option.none : Option FieldType), [], tb_W_writeExit)
theorem mo_W_writeExit : mi_ok mi_W_writeExit := by
  show ∀ q ∈ tb_W_writeExit, decode prog_12_method_5_code q.1 = .ok q.2
  decide +kernel
theorem mw_W_writeExit : mi_w mi_W_writeExit 2 := ⟨tb_m 1756 (by decide +kernel) (by decide +kernel), tb_m 147 (by decide +kernel) rfl, ⟨by decide +kernel, by decide +kernel, by decide +kernel⟩, by decide +kernel⟩
theorem mv_W_writeExit : mi_wV mi_W_writeExit := ⟨tb_m 1754 (by decide +kernel) rfl, tb_m 1755 (by decide +kernel) rfl⟩
def tb_D_writeBlock : List (Nat × Instr × Nat) := [(0, .aload_n 0, 1),
  (1, .iload_n 1, 1),
  (2, .invokevirtual 137, 3),
  (5, .aload_n 0, 1),
  (6, .getfield 26, 3),
  (9, .invokevirtual 397, 3),
  (12, .aload_n 0, 1),
  (13, .getfield 87, 3),
  (16, .iload_n 1, 1),
  (17, .invokevirtual 400, 3),
  (20, .istore_n 2, 1),
  (21, .iload_n 2, 1),
  (22, .aload_n 0, 1),
  (23, .getfield 87, 3),
  (26, .iload_n 1, 1),
  (27, .invokevirtual 403, 3),
  (30, .if_icmp .ge 24, 3),
  (33, .aload_n 0, 1),
  (34, .getfield 26, 3),
  (37, .aload_n 0, 1),
  (38, .getfield 87, 3),
  (41, .iload_n 2, 1),
  (42, .invokevirtual 406, 3),
  (45, .invokevirtual 409, 3),
  (48, .iinc 2 1, 3),
  (51, .goto (-30), 3),
  (54, .aload_n 0, 1),
  (55, .getfield 26, 3),
  (58, .aload_n 0, 1),
  (59, .getfield 87, 3),
  (62, .iload_n 1, 1),
  (63, .invokevirtual 412, 3),
  (66, .aload_n 0, 1),
  (67, .getfield 26, 3),
  (70, .getfield 415, 3),
  (73, .ireturn, 1)]
def mi_D_writeBlock : mi_T := ("DataflowLab", ({ cls := "DataflowLab", name := "writeBlock", desc := "(I)I" } : MethodName), prog_1_method_56_code, 3, (Option.some FieldType.int), [], tb_D_writeBlock)
theorem mo_D_writeBlock : mi_ok mi_D_writeBlock := by
  show ∀ q ∈ tb_D_writeBlock, decode prog_1_method_56_code q.1 = .ok q.2
  decide +kernel
theorem mw_D_writeBlock : mi_w mi_D_writeBlock 1 := ⟨tb_m 1703 (by decide +kernel) (by decide +kernel), tb_m 144 (by decide +kernel) rfl, ⟨by decide +kernel, by decide +kernel, by decide +kernel⟩, by decide +kernel⟩
theorem mv_D_writeBlock : mi_wV mi_D_writeBlock := ⟨tb_m 1701 (by decide +kernel) rfl, tb_m 1702 (by decide +kernel) rfl⟩
def tb_W_byteAt : List (Nat × Instr × Nat) := [(0, .iload_n 1, 1),
  (1, .ifCond .lt 22, 3),
  (4, .iload_n 1, 1),
  (5, .aload_n 0, 1),
  (6, .getfield 15, 3),
  (9, .if_icmp .ge 14, 3),
  (12, .aload_n 0, 1),
  (13, .getfield 9, 3),
  (16, .iload_n 1, 1),
  (17, .invokestatic 19, 3),
  (20, .goto 4, 3),
  (23, .iconst (-1), 1),
  (24, .ireturn, 1)]
def mi_W_byteAt : mi_T := ("DataflowLab$Writer", ({ cls := "DataflowLab$Writer", name := "byteAt", desc := "(I)I" } : MethodName), prog_12_method_3_code, 2, (Option.some FieldType.int), [], tb_W_byteAt)
theorem mo_W_byteAt : mi_ok mi_W_byteAt := by
  show ∀ q ∈ tb_W_byteAt, decode prog_12_method_3_code q.1 = .ok q.2
  decide +kernel
theorem mw_W_byteAt : mi_w mi_W_byteAt 1 := ⟨tb_m 1140 (by decide +kernel) (by decide +kernel), tb_m 147 (by decide +kernel) rfl, ⟨by decide +kernel, by decide +kernel, by decide +kernel⟩, by decide +kernel⟩
theorem mv_W_byteAt : mi_wV mi_W_byteAt := ⟨tb_m 1138 (by decide +kernel) rfl, tb_m 1139 (by decide +kernel) rfl⟩
def tb_D_outputByte : List (Nat × Instr × Nat) := [(0, .aload_n 0, 1),
  (1, .getfield 26, 3),
  (4, .iload_n 1, 1),
  (5, .invokevirtual 418, 3),
  (8, .ireturn, 1)]
def mi_D_outputByte : mi_T := ("DataflowLab", ({ cls := "DataflowLab", name := "outputByte", desc := "(I)I" } : MethodName), prog_1_method_57_code, 2, (Option.some FieldType.int), [], tb_D_outputByte)
theorem mo_D_outputByte : mi_ok mi_D_outputByte := by
  show ∀ q ∈ tb_D_outputByte, decode prog_1_method_57_code q.1 = .ok q.2
  decide +kernel
theorem mw_D_outputByte : mi_w mi_D_outputByte 1 := ⟨tb_m 1136 (by decide +kernel) (by decide +kernel), tb_m 144 (by decide +kernel) rfl, ⟨by decide +kernel, by decide +kernel, by decide +kernel⟩, by decide +kernel⟩
theorem mv_D_outputByte : mi_wV mi_D_outputByte := ⟨tb_m 1134 (by decide +kernel) rfl, tb_m 1135 (by decide +kernel) rfl⟩
def tb_H_takeBack : List (Nat × Instr × Nat) := [(0, .aload_n 0, 1),
  (1, .getfield 21, 3),
  (4, .ifCond .le 12, 3),
  (7, .aload_n 0, 1),
  (8, .getfield 21, 3),
  (11, .iconst 1, 1),
  (12, .isub, 1),
  (13, .goto 4, 3),
  (16, .iconst 5, 1),
  (17, .istore_n 2, 1),
  (18, .aload_n 0, 1),
  (19, .getfield 17, 3),
  (22, .ifCond .eq 12, 3),
  (25, .iload_n 2, 1),
  (26, .aload_n 0, 1),
  (27, .getfield 11, 3),
  (30, .arraylength, 1),
  (31, .if_icmp .lt 5, 3),
  (34, .iconst 0, 1),
  (35, .ireturn, 1),
  (36, .aload_n 0, 1),
  (37, .getfield 11, 3),
  (40, .iload_n 2, 1),
  (41, .aaload, 1),
  (42, .astore_n 3, 1),
  (43, .aload_n 3, 1),
  (44, .ifnonnull 5, 3),
  (47, .iconst 0, 1),
  (48, .ireturn, 1),
  (49, .aload_n 1, 1),
  (50, .aload_n 3, 1),
  (51, .invokevirtual 25, 3),
  (54, .aload_n 0, 1),
  (55, .iload_n 2, 1),
  (56, .putfield 21, 3),
  (59, .aload_n 0, 1),
  (60, .dup, 1),
  (61, .getfield 17, 3),
  (64, .iconst 1, 1),
  (65, .isub, 1),
  (66, .putfield 17, 3),
  (69, .iconst 1, 1),
  (70, .ireturn, 1)]
def mi_H_takeBack : mi_T := ("DataflowLab$History", ({ cls := "DataflowLab$History", name := "takeBack", desc := "(LDataflowLab$Program;)Z" } : MethodName), prog_6_method_4_code, 4, (Option.some FieldType.boolean), [], tb_H_takeBack)
theorem mo_H_takeBack : mi_ok mi_H_takeBack := by
  show ∀ q ∈ tb_H_takeBack, decode prog_6_method_4_code q.1 = .ok q.2
  decide +kernel
theorem mw_H_takeBack : mi_w mi_H_takeBack 1 := ⟨tb_m 1773 (by decide +kernel) (by decide +kernel), tb_m 148 (by decide +kernel) rfl, ⟨by decide +kernel, by decide +kernel, by decide +kernel⟩, by decide +kernel⟩
theorem mv_H_takeBack : mi_wV mi_H_takeBack := ⟨tb_m 1771 (by decide +kernel) rfl, tb_m 1772 (by decide +kernel) rfl⟩
def tb_D_undo : List (Nat × Instr × Nat) := [(0, .aload_n 0, 1),
  (1, .getfield 33, 3),
  (4, .aload_n 0, 1),
  (5, .getfield 87, 3),
  (8, .invokevirtual 421, 3),
  (11, .ifCond .ne 14, 3),
  (14, .new 94, 3),
  (17, .dup, 1),
  (18, .ldc_w 424, 3),
  (21, .invokespecial 98, 3),
  (24, .athrow, 1),
  (25, .aload_n 0, 1),
  (26, .invokevirtual 374, 3),
  (29, .aload_n 0, 1),
  (30, .getfield 33, 3),
  (33, .getfield 426, 3),
  (36, .ireturn, 1)]
def mi_D_undo : mi_T := ("DataflowLab", ({ cls := "DataflowLab", name := "undo", desc := "()I" } : MethodName), prog_1_method_58_code, 1, (Option.some FieldType.int), [], tb_D_undo)
theorem mo_D_undo : mi_ok mi_D_undo := by
  show ∀ q ∈ tb_D_undo, decode prog_1_method_58_code q.1 = .ok q.2
  decide +kernel
theorem mw_D_undo : mi_w mi_D_undo 0 := ⟨tb_m 1769 (by decide +kernel) (by decide +kernel), tb_m 144 (by decide +kernel) rfl, ⟨by decide +kernel, by decide +kernel, by decide +kernel⟩, by decide +kernel⟩
theorem mv_D_undo : mi_wV mi_D_undo := ⟨tb_m 1767 (by decide +kernel) rfl, tb_m 1768 (by decide +kernel) rfl⟩
def tb_D_saveSnapshot : List (Nat × Instr × Nat) := [(0, .iload_n 1, 1),
  (1, .ifCond .lt 12, 3),
  (4, .iload_n 1, 1),
  (5, .aload_n 0, 1),
  (6, .getfield 37, 3),
  (9, .arraylength, 1),
  (10, .if_icmp .lt 14, 3),
  (13, .new 105, 3),
  (16, .dup, 1),
  (17, .ldc_w 429, 3),
  (20, .invokespecial 109, 3),
  (23, .athrow, 1),
  (24, .aload_n 0, 1),
  (25, .getfield 37, 3),
  (28, .iload_n 1, 1),
  (29, .aaload, 1),
  (30, .astore_n 2, 1),
  (31, .aload_n 2, 1),
  (32, .ifnonnull 18, 3),
  (35, .new 7, 3),
  (38, .dup, 1),
  (39, .invokespecial 9, 3),
  (42, .astore_n 2, 1),
  (43, .aload_n 0, 1),
  (44, .getfield 37, 3),
  (47, .iload_n 1, 1),
  (48, .aload_n 2, 1),
  (49, .aastore, 1),
  (50, .aload_n 2, 1),
  (51, .aload_n 0, 1),
  (52, .getfield 87, 3),
  (55, .invokevirtual 431, 3),
  (58, .return_, 1)]
def mi_D_saveSnapshot : mi_T := ("DataflowLab", ({ cls := "DataflowLab", name := "saveSnapshot", desc := "(I)V" } : MethodName), prog_1_method_59_code, 3, (Option.none : Option FieldType), [], tb_D_saveSnapshot)
theorem mo_D_saveSnapshot : mi_ok mi_D_saveSnapshot := by
  show ∀ q ∈ tb_D_saveSnapshot, decode prog_1_method_59_code q.1 = .ok q.2
  decide +kernel
theorem mw_D_saveSnapshot : mi_w mi_D_saveSnapshot 1 := ⟨tb_m 1781 (by decide +kernel) (by decide +kernel), tb_m 144 (by decide +kernel) rfl, ⟨by decide +kernel, by decide +kernel, by decide +kernel⟩, by decide +kernel⟩
theorem mv_D_saveSnapshot : mi_wV mi_D_saveSnapshot := ⟨tb_m 1779 (by decide +kernel) rfl, tb_m 1780 (by decide +kernel) rfl⟩
def tb_D_restoreSnapshot : List (Nat × Instr × Nat) := [(0, .iload_n 1, 1),
  (1, .ifCond .lt 12, 3),
  (4, .iload_n 1, 1),
  (5, .aload_n 0, 1),
  (6, .getfield 37, 3),
  (9, .arraylength, 1),
  (10, .if_icmp .lt 14, 3),
  (13, .new 105, 3),
  (16, .dup, 1),
  (17, .ldc_w 429, 3),
  (20, .invokespecial 109, 3),
  (23, .athrow, 1),
  (24, .aload_n 0, 1),
  (25, .getfield 37, 3),
  (28, .iload_n 1, 1),
  (29, .aaload, 1),
  (30, .astore_n 2, 1),
  (31, .aload_n 2, 1),
  (32, .ifnonnull 14, 3),
  (35, .new 94, 3),
  (38, .dup, 1),
  (39, .ldc_w 434, 3),
  (42, .invokespecial 98, 3),
  (45, .athrow, 1),
  (46, .aload_n 0, 1),
  (47, .aload_n 2, 1),
  (48, .invokevirtual 120, 3),
  (51, .return_, 1)]
def mi_D_restoreSnapshot : mi_T := ("DataflowLab", ({ cls := "DataflowLab", name := "restoreSnapshot", desc := "(I)V" } : MethodName), prog_1_method_60_code, 3, (Option.none : Option FieldType), [], tb_D_restoreSnapshot)
theorem mo_D_restoreSnapshot : mi_ok mi_D_restoreSnapshot := by
  show ∀ q ∈ tb_D_restoreSnapshot, decode prog_1_method_60_code q.1 = .ok q.2
  decide +kernel
theorem mw_D_restoreSnapshot : mi_w mi_D_restoreSnapshot 1 := ⟨tb_m 1789 (by decide +kernel) (by decide +kernel), tb_m 144 (by decide +kernel) rfl, ⟨by decide +kernel, by decide +kernel, by decide +kernel⟩, by decide +kernel⟩
theorem mv_D_restoreSnapshot : mi_wV mi_D_restoreSnapshot := ⟨tb_m 1787 (by decide +kernel) rfl, tb_m 1788 (by decide +kernel) rfl⟩
def tb_M_get : List (Nat × Instr × Nat) := [(0, .aload_n 0, 1),
  (1, .getfield 7, 3),
  (4, .sipush 262, 3),
  (7, .aload_n 0, 1),
  (8, .getfield 58, 3),
  (11, .imul, 1),
  (12, .iload_n 1, 1),
  (13, .iadd, 1),
  (14, .iaload, 1),
  (15, .ireturn, 1)]
def mi_M_get : mi_T := ("DataflowLabModel", ({ cls := "DataflowLabModel", name := "get", desc := "(I)I" } : MethodName), prog_14_method_3_code, 2, (Option.some FieldType.int), [], tb_M_get)
theorem mo_M_get : mi_ok mi_M_get := by
  show ∀ q ∈ tb_M_get, decode prog_14_method_3_code q.1 = .ok q.2
  decide +kernel
theorem mw_M_get : mi_w mi_M_get 1 := ⟨tb_m 1804 (by decide +kernel) (by decide +kernel), tb_m 161 (by decide +kernel) rfl, ⟨by decide +kernel, by decide +kernel, by decide +kernel⟩, by decide +kernel⟩
theorem mv_M_get : mi_wV mi_M_get := ⟨tb_m 1803 (by decide +kernel) rfl, tb_m 52 (by decide +kernel) rfl⟩
def tb_M_lay : List (Nat × Instr × Nat) := [(0, .aload_n 0, 1),
  (1, .getfield 7, 3),
  (4, .sipush 262, 3),
  (7, .aload_n 0, 1),
  (8, .getfield 58, 3),
  (11, .imul, 1),
  (12, .iload_n 1, 1),
  (13, .iadd, 1),
  (14, .iload_n 2, 1),
  (15, .iastore, 1),
  (16, .return_, 1)]
def mi_M_lay : mi_T := ("DataflowLabModel", ({ cls := "DataflowLabModel", name := "lay", desc := "(II)V" } : MethodName), prog_14_method_4_code, 3, (Option.none : Option FieldType), [], tb_M_lay)
theorem mo_M_lay : mi_ok mi_M_lay := by
  show ∀ q ∈ tb_M_lay, decode prog_14_method_4_code q.1 = .ok q.2
  decide +kernel
theorem mw_M_lay : mi_w mi_M_lay 2 := ⟨tb_m 1812 (by decide +kernel) (by decide +kernel), tb_m 161 (by decide +kernel) rfl, ⟨by decide +kernel, by decide +kernel, by decide +kernel⟩, by decide +kernel⟩
theorem mv_M_lay : mi_wV mi_M_lay := ⟨tb_m 1811 (by decide +kernel) rfl, tb_m 54 (by decide +kernel) rfl⟩
def tb_M_layBlock : List (Nat × Instr × Nat) := [(0, .aload_n 0, 1),
  (1, .iconst 2, 1),
  (2, .iconst 5, 1),
  (3, .iload_n 1, 1),
  (4, .imul, 1),
  (5, .iadd, 1),
  (6, .iload_n 2, 1),
  (7, .iadd, 1),
  (8, .iload_n 3, 1),
  (9, .invokevirtual 65, 3),
  (12, .return_, 1)]
def mi_M_layBlock : mi_T := ("DataflowLabModel", ({ cls := "DataflowLabModel", name := "layBlock", desc := "(III)V" } : MethodName), prog_14_method_9_code, 4, (Option.none : Option FieldType), [], tb_M_layBlock)
theorem mo_M_layBlock : mi_ok mi_M_layBlock := by
  show ∀ q ∈ tb_M_layBlock, decode prog_14_method_9_code q.1 = .ok q.2
  decide +kernel
theorem mw_M_layBlock : mi_w mi_M_layBlock 3 := ⟨tb_m 1808 (by decide +kernel) (by decide +kernel), tb_m 161 (by decide +kernel) rfl, ⟨by decide +kernel, by decide +kernel, by decide +kernel⟩, by decide +kernel⟩
theorem mv_M_layBlock : mi_wV mi_M_layBlock := ⟨tb_m 1807 (by decide +kernel) rfl, tb_m 53 (by decide +kernel) rfl⟩
def tb_M_newBlock : List (Nat × Instr × Nat) := [(0, .aload_n 0, 1),
  (1, .aload_n 0, 1),
  (2, .iconst 0, 1),
  (3, .invokevirtual 61, 3),
  (6, .iconst 0, 1),
  (7, .iconst 0, 1),
  (8, .invokevirtual 73, 3),
  (11, .aload_n 0, 1),
  (12, .iconst 0, 1),
  (13, .aload_n 0, 1),
  (14, .iconst 0, 1),
  (15, .invokevirtual 61, 3),
  (18, .iconst 1, 1),
  (19, .iadd, 1),
  (20, .invokevirtual 65, 3),
  (23, .return_, 1)]
def mi_M_newBlock : mi_T := ("DataflowLabModel", ({ cls := "DataflowLabModel", name := "newBlock", desc := "()V" } : MethodName), prog_14_method_13_code, 1, (Option.none : Option FieldType), [], tb_M_newBlock)
theorem mo_M_newBlock : mi_ok mi_M_newBlock := by
  show ∀ q ∈ tb_M_newBlock, decode prog_14_method_13_code q.1 = .ok q.2
  decide +kernel
theorem mw_M_newBlock : mi_w mi_M_newBlock 0 := ⟨tb_m 1800 (by decide +kernel) (by decide +kernel), tb_m 161 (by decide +kernel) rfl, ⟨by decide +kernel, by decide +kernel, by decide +kernel⟩, by decide +kernel⟩
theorem mv_M_newBlock : mi_wV mi_M_newBlock := ⟨tb_m 1799 (by decide +kernel) rfl, tb_m 51 (by decide +kernel) rfl⟩
def tb_M_layItem : List (Nat × Instr × Nat) := [(0, .aload_n 0, 1),
  (1, .bipush 62, 2),
  (3, .iconst 5, 1),
  (4, .iload_n 1, 1),
  (5, .imul, 1),
  (6, .iadd, 1),
  (7, .iload_n 2, 1),
  (8, .iadd, 1),
  (9, .iload_n 3, 1),
  (10, .invokevirtual 65, 3),
  (13, .return_, 1)]
def mi_M_layItem : mi_T := ("DataflowLabModel", ({ cls := "DataflowLabModel", name := "layItem", desc := "(III)V" } : MethodName), prog_14_method_11_code, 4, (Option.none : Option FieldType), [], tb_M_layItem)
theorem mo_M_layItem : mi_ok mi_M_layItem := by
  show ∀ q ∈ tb_M_layItem, decode prog_14_method_11_code q.1 = .ok q.2
  decide +kernel
theorem mw_M_layItem : mi_w mi_M_layItem 3 := ⟨tb_m 1824 (by decide +kernel) (by decide +kernel), tb_m 161 (by decide +kernel) rfl, ⟨by decide +kernel, by decide +kernel, by decide +kernel⟩, by decide +kernel⟩
theorem mv_M_layItem : mi_wV mi_M_layItem := ⟨tb_m 1823 (by decide +kernel) rfl, tb_m 57 (by decide +kernel) rfl⟩
def tb_M_writes : List (Nat × Instr × Nat) := [(0, .aload_n 0, 1),
  (1, .iload_n 1, 1),
  (2, .iconst 0, 1),
  (3, .iload_n 2, 1),
  (4, .invokevirtual 69, 3),
  (7, .aload_n 0, 1),
  (8, .iload_n 1, 1),
  (9, .iconst 1, 1),
  (10, .iload_n 3, 1),
  (11, .invokevirtual 69, 3),
  (14, .aload_n 0, 1),
  (15, .iload_n 1, 1),
  (16, .iconst 2, 1),
  (17, .iload 4, 2),
  (19, .invokevirtual 69, 3),
  (22, .aload_n 0, 1),
  (23, .iload_n 1, 1),
  (24, .iconst 3, 1),
  (25, .iload 5, 2),
  (27, .invokevirtual 69, 3),
  (30, .aload_n 0, 1),
  (31, .iload_n 1, 1),
  (32, .iconst 4, 1),
  (33, .iload 6, 2),
  (35, .invokevirtual 69, 3),
  (38, .return_, 1)]
def mi_M_writes : mi_T := ("DataflowLabModel", ({ cls := "DataflowLabModel", name := "writes", desc := "(IIIIII)V" } : MethodName), prog_14_method_12_code, 7, (Option.none : Option FieldType), [], tb_M_writes)
theorem mo_M_writes : mi_ok mi_M_writes := by
  show ∀ q ∈ tb_M_writes, decode prog_14_method_12_code q.1 = .ok q.2
  decide +kernel
theorem mw_M_writes : mi_w mi_M_writes 6 := ⟨tb_m 1820 (by decide +kernel) (by decide +kernel), tb_m 161 (by decide +kernel) rfl, ⟨by decide +kernel, by decide +kernel, by decide +kernel⟩, by decide +kernel⟩
theorem mv_M_writes : mi_wV mi_M_writes := ⟨tb_m 1819 (by decide +kernel) rfl, tb_m 56 (by decide +kernel) rfl⟩
def tb_M_bl : List (Nat × Instr × Nat) := [(0, .aload_n 0, 1),
  (1, .iconst 2, 1),
  (2, .iconst 5, 1),
  (3, .iload_n 1, 1),
  (4, .imul, 1),
  (5, .iadd, 1),
  (6, .iload_n 2, 1),
  (7, .iadd, 1),
  (8, .invokevirtual 61, 3),
  (11, .ireturn, 1)]
def mi_M_bl : mi_T := ("DataflowLabModel", ({ cls := "DataflowLabModel", name := "bl", desc := "(II)I" } : MethodName), prog_14_method_8_code, 3, (Option.some FieldType.int), [], tb_M_bl)
theorem mo_M_bl : mi_ok mi_M_bl := by
  show ∀ q ∈ tb_M_bl, decode prog_14_method_8_code q.1 = .ok q.2
  decide +kernel
theorem mw_M_bl : mi_w mi_M_bl 2 := ⟨tb_m 1828 (by decide +kernel) (by decide +kernel), tb_m 161 (by decide +kernel) rfl, ⟨by decide +kernel, by decide +kernel, by decide +kernel⟩, by decide +kernel⟩
theorem mv_M_bl : mi_wV mi_M_bl := ⟨tb_m 1827 (by decide +kernel) rfl, tb_m 58 (by decide +kernel) rfl⟩
def tb_M_newItem : List (Nat × Instr × Nat) := [(0, .aload_n 0, 1),
  (1, .aload_n 0, 1),
  (2, .iconst 1, 1),
  (3, .invokevirtual 61, 3),
  (6, .iload_n 1, 1),
  (7, .iload_n 2, 1),
  (8, .iload_n 3, 1),
  (9, .iload 4, 2),
  (11, .iload 5, 2),
  (13, .invokevirtual 76, 3),
  (16, .aload_n 0, 1),
  (17, .iconst 1, 1),
  (18, .aload_n 0, 1),
  (19, .iconst 1, 1),
  (20, .invokevirtual 61, 3),
  (23, .iconst 1, 1),
  (24, .iadd, 1),
  (25, .invokevirtual 65, 3),
  (28, .aload_n 0, 1),
  (29, .iconst 0, 1),
  (30, .invokevirtual 61, 3),
  (33, .iconst 1, 1),
  (34, .isub, 1),
  (35, .istore 6, 2),
  (37, .aload_n 0, 1),
  (38, .iload 6, 2),
  (40, .iconst 0, 1),
  (41, .aload_n 0, 1),
  (42, .iload 6, 2),
  (44, .iconst 0, 1),
  (45, .invokevirtual 80, 3),
  (48, .iconst 1, 1),
  (49, .iadd, 1),
  (50, .invokevirtual 73, 3),
  (53, .return_, 1)]
def mi_M_newItem : mi_T := ("DataflowLabModel", ({ cls := "DataflowLabModel", name := "newItem", desc := "(IIIII)V" } : MethodName), prog_14_method_14_code, 7, (Option.none : Option FieldType), [], tb_M_newItem)
theorem mo_M_newItem : mi_ok mi_M_newItem := by
  show ∀ q ∈ tb_M_newItem, decode prog_14_method_14_code q.1 = .ok q.2
  decide +kernel
theorem mw_M_newItem : mi_w mi_M_newItem 5 := ⟨tb_m 1816 (by decide +kernel) (by decide +kernel), tb_m 161 (by decide +kernel) rfl, ⟨by decide +kernel, by decide +kernel, by decide +kernel⟩, by decide +kernel⟩
theorem mv_M_newItem : mi_wV mi_M_newItem := ⟨tb_m 1815 (by decide +kernel) rfl, tb_m 55 (by decide +kernel) rfl⟩
def tb_M_exits : List (Nat × Instr × Nat) := [(0, .aload_n 0, 1),
  (1, .iload_n 1, 1),
  (2, .iconst 1, 1),
  (3, .iload_n 2, 1),
  (4, .invokevirtual 73, 3),
  (7, .aload_n 0, 1),
  (8, .iload_n 1, 1),
  (9, .iconst 2, 1),
  (10, .iload_n 3, 1),
  (11, .invokevirtual 73, 3),
  (14, .aload_n 0, 1),
  (15, .iload_n 1, 1),
  (16, .iconst 3, 1),
  (17, .iload 4, 2),
  (19, .invokevirtual 73, 3),
  (22, .aload_n 0, 1),
  (23, .iload_n 1, 1),
  (24, .iconst 4, 1),
  (25, .iload 5, 2),
  (27, .invokevirtual 73, 3),
  (30, .return_, 1)]
def mi_M_exits : mi_T := ("DataflowLabModel", ({ cls := "DataflowLabModel", name := "exits", desc := "(IIIII)V" } : MethodName), prog_14_method_15_code, 6, (Option.none : Option FieldType), [], tb_M_exits)
theorem mo_M_exits : mi_ok mi_M_exits := by
  show ∀ q ∈ tb_M_exits, decode prog_14_method_15_code q.1 = .ok q.2
  decide +kernel
theorem mw_M_exits : mi_w mi_M_exits 5 := ⟨tb_m 1832 (by decide +kernel) (by decide +kernel), tb_m 161 (by decide +kernel) rfl, ⟨by decide +kernel, by decide +kernel, by decide +kernel⟩, by decide +kernel⟩
theorem mv_M_exits : mi_wV mi_M_exits := ⟨tb_m 1831 (by decide +kernel) rfl, tb_m 59 (by decide +kernel) rfl⟩
def tb_M_init : List (Nat × Instr × Nat) := [(0, .aload_n 0, 1),
  (1, .invokespecial 1, 3),
  (4, .aload_n 0, 1),
  (5, .sipush 2620, 3),
  (8, .newarray .int, 2),
  (10, .putfield 7, 3),
  (13, .aload_n 0, 1),
  (14, .iconst 2, 1),
  (15, .newarray .boolean, 2),
  (17, .putfield 13, 3),
  (20, .aload_n 0, 1),
  (21, .bipush 12, 2),
  (23, .newarray .boolean, 2),
  (25, .putfield 17, 3),
  (28, .aload_n 0, 1),
  (29, .bipush 12, 2),
  (31, .newarray .boolean, 2),
  (33, .putfield 20, 3),
  (36, .aload_n 0, 1),
  (37, .bipush 96, 2),
  (39, .newarray .int, 2),
  (41, .putfield 23, 3),
  (44, .aload_n 0, 1),
  (45, .bipush 8, 2),
  (47, .newarray .int, 2),
  (49, .putfield 26, 3),
  (52, .aload_n 0, 1),
  (53, .bipush 8, 2),
  (55, .newarray .int, 2),
  (57, .putfield 29, 3),
  (60, .aload_n 0, 1),
  (61, .sipush 700, 3),
  (64, .newarray .int, 2),
  (66, .putfield 32, 3),
  (69, .aload_n 0, 1),
  (70, .iconst (-1), 1),
  (71, .putfield 35, 3),
  (74, .aload_n 0, 1),
  (75, .bipush 24, 2),
  (77, .newarray .int, 2),
  (79, .putfield 39, 3),
  (82, .aload_n 0, 1),
  (83, .sipush 1000, 3),
  (86, .newarray .int, 2),
  (88, .putfield 42, 3),
  (91, .aload_n 0, 1),
  (92, .invokevirtual 45, 3),
  (95, .aload_n 0, 1),
  (96, .iconst 0, 1),
  (97, .iconst 0, 1),
  (98, .iconst 5, 1),
  (99, .iconst 0, 1),
  (100, .iconst 0, 1),
  (101, .invokevirtual 48, 3),
  (104, .aload_n 0, 1),
  (105, .iconst 0, 1),
  (106, .iconst 1, 1),
  (107, .iconst 1, 1),
  (108, .iconst 0, 1),
  (109, .iconst 0, 1),
  (110, .invokevirtual 48, 3),
  (113, .aload_n 0, 1),
  (114, .iconst 0, 1),
  (115, .iconst 3, 1),
  (116, .bipush 7, 2),
  (118, .iconst 0, 1),
  (119, .iconst 0, 1),
  (120, .invokevirtual 48, 3),
  (123, .aload_n 0, 1),
  (124, .iconst 0, 1),
  (125, .iconst 1, 1),
  (126, .iconst 0, 1),
  (127, .iconst 1, 1),
  (128, .iconst 0, 1),
  (129, .invokevirtual 52, 3),
  (132, .aload_n 0, 1),
  (133, .invokevirtual 45, 3),
  (136, .aload_n 0, 1),
  (137, .iconst 2, 1),
  (138, .iconst 2, 1),
  (139, .iconst 0, 1),
  (140, .iconst 0, 1),
  (141, .iconst 1, 1),
  (142, .invokevirtual 48, 3),
  (145, .aload_n 0, 1),
  (146, .iconst 1, 1),
  (147, .iconst 2, 1),
  (148, .iconst 0, 1),
  (149, .iconst 2, 1),
  (150, .iconst 3, 1),
  (151, .invokevirtual 52, 3),
  (154, .aload_n 0, 1),
  (155, .invokevirtual 45, 3),
  (158, .aload_n 0, 1),
  (159, .iconst 2, 1),
  (160, .iconst 0, 1),
  (161, .iconst 0, 1),
  (162, .iconst 1, 1),
  (163, .iconst 1, 1),
  (164, .invokevirtual 48, 3),
  (167, .aload_n 0, 1),
  (168, .iconst 2, 1),
  (169, .iconst 4, 1),
  (170, .iconst 0, 1),
  (171, .iconst 0, 1),
  (172, .iconst 1, 1),
  (173, .invokevirtual 48, 3),
  (176, .aload_n 0, 1),
  (177, .iconst 2, 1),
  (178, .iconst 1, 1),
  (179, .iconst 0, 1),
  (180, .iconst 1, 1),
  (181, .iconst 0, 1),
  (182, .invokevirtual 52, 3),
  (185, .aload_n 0, 1),
  (186, .invokevirtual 45, 3),
  (189, .aload_n 0, 1),
  (190, .iconst 3, 1),
  (191, .iconst 0, 1),
  (192, .iconst 2, 1),
  (193, .iconst 0, 1),
  (194, .iconst 0, 1),
  (195, .invokevirtual 48, 3),
  (198, .aload_n 0, 1),
  (199, .iconst 1, 1),
  (200, .iconst 5, 1),
  (201, .iconst 3, 1),
  (202, .iconst 0, 1),
  (203, .iconst 0, 1),
  (204, .invokevirtual 48, 3),
  (207, .aload_n 0, 1),
  (208, .iconst 3, 1),
  (209, .iconst 0, 1),
  (210, .iconst 0, 1),
  (211, .iconst 0, 1),
  (212, .iconst 0, 1),
  (213, .invokevirtual 52, 3),
  (216, .return_, 1)]
def mi_M_init : mi_T := ("DataflowLabModel", ({ cls := "DataflowLabModel", name := "<init>", desc := "()V" } : MethodName), prog_14_method_1_code, 1, (Option.none : Option FieldType), [], tb_M_init)
theorem mo_M_init : mi_ok mi_M_init := by
  show ∀ q ∈ tb_M_init, decode prog_14_method_1_code q.1 = .ok q.2
  decide +kernel
theorem mw_M_init : mi_w mi_M_init 0 := ⟨tb_m 1795 (by decide +kernel) (by decide +kernel), tb_m 161 (by decide +kernel) rfl, ⟨by decide +kernel, by decide +kernel, by decide +kernel⟩, by decide +kernel⟩
theorem mv_M_init : Cond.instanceMethod (mi_y mi_M_init) ∈ tb_G := tb_m 1794 (by decide +kernel) rfl
def tb_M_thrown : List (Nat × Instr × Nat) := [(0, .aload_n 0, 1),
  (1, .getfield 55, 3),
  (4, .ireturn, 1)]
def mi_M_thrown : mi_T := ("DataflowLabModel", ({ cls := "DataflowLabModel", name := "thrown", desc := "()I" } : MethodName), prog_14_method_2_code, 1, (Option.some FieldType.int), [], tb_M_thrown)
theorem mo_M_thrown : mi_ok mi_M_thrown := by
  show ∀ q ∈ tb_M_thrown, decode prog_14_method_2_code q.1 = .ok q.2
  decide +kernel
theorem mw_M_thrown : mi_w mi_M_thrown 0 := ⟨tb_m 1913 (by decide +kernel) (by decide +kernel), tb_m 161 (by decide +kernel) rfl, ⟨by decide +kernel, by decide +kernel, by decide +kernel⟩, by decide +kernel⟩
theorem mv_M_thrown : mi_wV mi_M_thrown := ⟨tb_m 1911 (by decide +kernel) rfl, tb_m 1912 (by decide +kernel) rfl⟩
def tb_M_copies : List (Nat × Instr × Nat) := [(0, .iconst 0, 1),
  (1, .istore_n 3, 1),
  (2, .iload_n 3, 1),
  (3, .sipush 262, 3),
  (6, .if_icmp .ge 33, 3),
  (9, .aload_n 0, 1),
  (10, .getfield 7, 3),
  (13, .sipush 262, 3),
  (16, .iload_n 2, 1),
  (17, .imul, 1),
  (18, .iload_n 3, 1),
  (19, .iadd, 1),
  (20, .aload_n 0, 1),
  (21, .getfield 7, 3),
  (24, .sipush 262, 3),
  (27, .iload_n 1, 1),
  (28, .imul, 1),
  (29, .iload_n 3, 1),
  (30, .iadd, 1),
  (31, .iaload, 1),
  (32, .iastore, 1),
  (33, .iinc 3 1, 3),
  (36, .goto (-34), 3),
  (39, .return_, 1)]
def mi_M_copies : mi_T := ("DataflowLabModel", ({ cls := "DataflowLabModel", name := "copies", desc := "(II)V" } : MethodName), prog_14_method_5_code, 4, (Option.none : Option FieldType), [], tb_M_copies)
theorem mo_M_copies : mi_ok mi_M_copies := by
  show ∀ q ∈ tb_M_copies, decode prog_14_method_5_code q.1 = .ok q.2
  decide +kernel
theorem mw_M_copies : mi_w mi_M_copies 2 := ⟨tb_m 2014 (by decide +kernel) (by decide +kernel), tb_m 161 (by decide +kernel) rfl, ⟨by decide +kernel, by decide +kernel, by decide +kernel⟩, by decide +kernel⟩
theorem mv_M_copies : mi_wV mi_M_copies := ⟨tb_m 2013 (by decide +kernel) rfl, tb_m 77 (by decide +kernel) rfl⟩
def tb_M_in : List (Nat × Instr × Nat) := [(0, .iload_n 0, 1),
  (1, .iload_n 1, 1),
  (2, .if_icmp .lt 12, 3),
  (5, .iload_n 0, 1),
  (6, .iload_n 2, 1),
  (7, .if_icmp .gt 7, 3),
  (10, .iconst 1, 1),
  (11, .goto 4, 3),
  (14, .iconst 0, 1),
  (15, .ireturn, 1)]
def mi_M_in : mi_T := ("DataflowLabModel", ({ cls := "DataflowLabModel", name := "in", desc := "(III)Z" } : MethodName), prog_14_method_6_code, 3, (Option.some FieldType.boolean), [], tb_M_in)
theorem mo_M_in : mi_ok mi_M_in := by
  show ∀ q ∈ tb_M_in, decode prog_14_method_6_code q.1 = .ok q.2
  decide +kernel
theorem mw_M_in : mi_w mi_M_in 3 := ⟨tb_m 1936 (by decide +kernel) (by decide +kernel), tb_m 161 (by decide +kernel) rfl, ⟨by decide +kernel, by decide +kernel, by decide +kernel⟩, by decide +kernel⟩
theorem mv_M_in : Cond.static (mi_y mi_M_in) ∈ tb_G := tb_m 1935 (by decide +kernel) rfl
def tb_M_one : List (Nat × Instr × Nat) := [(0, .iload_n 0, 1),
  (1, .ifCond .eq 7, 3),
  (4, .iconst 1, 1),
  (5, .goto 4, 3),
  (8, .iconst 0, 1),
  (9, .ireturn, 1)]
def mi_M_one : mi_T := ("DataflowLabModel", ({ cls := "DataflowLabModel", name := "one", desc := "(Z)I" } : MethodName), prog_14_method_7_code, 1, (Option.some FieldType.int), [], tb_M_one)
theorem mo_M_one : mi_ok mi_M_one := by
  show ∀ q ∈ tb_M_one, decode prog_14_method_7_code q.1 = .ok q.2
  decide +kernel
theorem mw_M_one : mi_w mi_M_one 1 := ⟨tb_m 2081 (by decide +kernel) (by decide +kernel), tb_m 161 (by decide +kernel) rfl, ⟨by decide +kernel, by decide +kernel, by decide +kernel⟩, by decide +kernel⟩
theorem mv_M_one : Cond.static (mi_y mi_M_one) ∈ tb_G := tb_m 2080 (by decide +kernel) rfl
def tb_M_it : List (Nat × Instr × Nat) := [(0, .aload_n 0, 1),
  (1, .bipush 62, 2),
  (3, .iconst 5, 1),
  (4, .iload_n 1, 1),
  (5, .imul, 1),
  (6, .iadd, 1),
  (7, .iload_n 2, 1),
  (8, .iadd, 1),
  (9, .invokevirtual 61, 3),
  (12, .ireturn, 1)]
def mi_M_it : mi_T := ("DataflowLabModel", ({ cls := "DataflowLabModel", name := "it", desc := "(II)I" } : MethodName), prog_14_method_10_code, 3, (Option.some FieldType.int), [], tb_M_it)
theorem mo_M_it : mi_ok mi_M_it := by
  show ∀ q ∈ tb_M_it, decode prog_14_method_10_code q.1 = .ok q.2
  decide +kernel
theorem mw_M_it : mi_w mi_M_it 2 := ⟨tb_m 2066 (by decide +kernel) (by decide +kernel), tb_m 161 (by decide +kernel) rfl, ⟨by decide +kernel, by decide +kernel, by decide +kernel⟩, by decide +kernel⟩
theorem mv_M_it : mi_wV mi_M_it := ⟨tb_m 2065 (by decide +kernel) rfl, tb_m 83 (by decide +kernel) rfl⟩
def tb_M_firstOf : List (Nat × Instr × Nat) := [(0, .iconst 0, 1),
  (1, .istore_n 2, 1),
  (2, .iconst 0, 1),
  (3, .istore_n 3, 1),
  (4, .iload_n 3, 1),
  (5, .iload_n 1, 1),
  (6, .if_icmp .ge 18, 3),
  (9, .iload_n 2, 1),
  (10, .aload_n 0, 1),
  (11, .iload_n 3, 1),
  (12, .iconst 0, 1),
  (13, .invokevirtual 80, 3),
  (16, .iadd, 1),
  (17, .istore_n 2, 1),
  (18, .iinc 3 1, 3),
  (21, .goto (-17), 3),
  (24, .iload_n 2, 1),
  (25, .ireturn, 1)]
def mi_M_firstOf : mi_T := ("DataflowLabModel", ({ cls := "DataflowLabModel", name := "firstOf", desc := "(I)I" } : MethodName), prog_14_method_16_code, 4, (Option.some FieldType.int), [], tb_M_firstOf)
theorem mo_M_firstOf : mi_ok mi_M_firstOf := by
  show ∀ q ∈ tb_M_firstOf, decode prog_14_method_16_code q.1 = .ok q.2
  decide +kernel
theorem mw_M_firstOf : mi_w mi_M_firstOf 1 := ⟨tb_m 2058 (by decide +kernel) (by decide +kernel), tb_m 161 (by decide +kernel) rfl, ⟨by decide +kernel, by decide +kernel, by decide +kernel⟩, by decide +kernel⟩
theorem mv_M_firstOf : mi_wV mi_M_firstOf := ⟨tb_m 2057 (by decide +kernel) rfl, tb_m 82 (by decide +kernel) rfl⟩
def tb_M_endOf : List (Nat × Instr × Nat) := [(0, .aload_n 0, 1),
  (1, .iload_n 1, 1),
  (2, .invokevirtual 84, 3),
  (5, .aload_n 0, 1),
  (6, .iload_n 1, 1),
  (7, .iconst 0, 1),
  (8, .invokevirtual 80, 3),
  (11, .iadd, 1),
  (12, .ireturn, 1)]
def mi_M_endOf : mi_T := ("DataflowLabModel", ({ cls := "DataflowLabModel", name := "endOf", desc := "(I)I" } : MethodName), prog_14_method_17_code, 2, (Option.some FieldType.int), [], tb_M_endOf)
theorem mo_M_endOf : mi_ok mi_M_endOf := by
  show ∀ q ∈ tb_M_endOf, decode prog_14_method_17_code q.1 = .ok q.2
  decide +kernel
theorem mw_M_endOf : mi_w mi_M_endOf 1 := ⟨tb_m 2054 (by decide +kernel) (by decide +kernel), tb_m 161 (by decide +kernel) rfl, ⟨by decide +kernel, by decide +kernel, by decide +kernel⟩, by decide +kernel⟩
theorem mv_M_endOf : mi_wV mi_M_endOf := ⟨tb_m 2053 (by decide +kernel) rfl, tb_m 81 (by decide +kernel) rfl⟩
def tb_M_blockAt : List (Nat × Instr × Nat) := [(0, .iconst 0, 1),
  (1, .istore_n 2, 1),
  (2, .aload_n 0, 1),
  (3, .iload_n 2, 1),
  (4, .invokevirtual 87, 3),
  (7, .iload_n 1, 1),
  (8, .if_icmp .gt 9, 3),
  (11, .iinc 2 1, 3),
  (14, .goto (-12), 3),
  (17, .iload_n 2, 1),
  (18, .ireturn, 1)]
def mi_M_blockAt : mi_T := ("DataflowLabModel", ({ cls := "DataflowLabModel", name := "blockAt", desc := "(I)I" } : MethodName), prog_14_method_18_code, 3, (Option.some FieldType.int), [], tb_M_blockAt)
theorem mo_M_blockAt : mi_ok mi_M_blockAt := by
  show ∀ q ∈ tb_M_blockAt, decode prog_14_method_18_code q.1 = .ok q.2
  decide +kernel
theorem mw_M_blockAt : mi_w mi_M_blockAt 1 := ⟨tb_m 2050 (by decide +kernel) (by decide +kernel), tb_m 161 (by decide +kernel) rfl, ⟨by decide +kernel, by decide +kernel, by decide +kernel⟩, by decide +kernel⟩
theorem mv_M_blockAt : mi_wV mi_M_blockAt := ⟨tb_m 2049 (by decide +kernel) rfl, tb_m 80 (by decide +kernel) rfl⟩
def tb_M_ways : List (Nat × Instr × Nat) := [(0, .aload_n 0, 1),
  (1, .iload_n 1, 1),
  (2, .iconst 1, 1),
  (3, .invokevirtual 80, 3),
  (6, .ireturn, 1)]
def mi_M_ways : mi_T := ("DataflowLabModel", ({ cls := "DataflowLabModel", name := "ways", desc := "(I)I" } : MethodName), prog_14_method_19_code, 2, (Option.some FieldType.int), [], tb_M_ways)
theorem mo_M_ways : mi_ok mi_M_ways := by
  show ∀ q ∈ tb_M_ways, decode prog_14_method_19_code q.1 = .ok q.2
  decide +kernel
theorem mw_M_ways : mi_w mi_M_ways 1 := ⟨tb_m 2006 (by decide +kernel) (by decide +kernel), tb_m 161 (by decide +kernel) rfl, ⟨by decide +kernel, by decide +kernel, by decide +kernel⟩, by decide +kernel⟩
theorem mv_M_ways : mi_wV mi_M_ways := ⟨tb_m 2005 (by decide +kernel) rfl, tb_m 75 (by decide +kernel) rfl⟩
def tb_M_way : List (Nat × Instr × Nat) := [(0, .aload_n 0, 1),
  (1, .iload_n 1, 1),
  (2, .iload_n 2, 1),
  (3, .ifCond .ne 7, 3),
  (6, .iconst 3, 1),
  (7, .goto 4, 3),
  (10, .iconst 4, 1),
  (11, .invokevirtual 80, 3),
  (14, .ireturn, 1)]
def mi_M_way : mi_T := ("DataflowLabModel", ({ cls := "DataflowLabModel", name := "way", desc := "(II)I" } : MethodName), prog_14_method_20_code, 3, (Option.some FieldType.int), [], tb_M_way)
theorem mo_M_way : mi_ok mi_M_way := by
  show ∀ q ∈ tb_M_way, decode prog_14_method_20_code q.1 = .ok q.2
  decide +kernel
theorem mw_M_way : mi_w mi_M_way 2 := ⟨tb_m 2010 (by decide +kernel) (by decide +kernel), tb_m 161 (by decide +kernel) rfl, ⟨by decide +kernel, by decide +kernel, by decide +kernel⟩, by decide +kernel⟩
theorem mv_M_way : mi_wV mi_M_way := ⟨tb_m 2009 (by decide +kernel) rfl, tb_m 76 (by decide +kernel) rfl⟩
def tb_M_leads : List (Nat × Instr × Nat) := [(0, .iconst 0, 1),
  (1, .istore_n 3, 1),
  (2, .iload_n 3, 1),
  (3, .aload_n 0, 1),
  (4, .iload_n 1, 1),
  (5, .invokevirtual 90, 3),
  (8, .if_icmp .ge 21, 3),
  (11, .aload_n 0, 1),
  (12, .iload_n 1, 1),
  (13, .iload_n 3, 1),
  (14, .invokevirtual 93, 3),
  (17, .iload_n 2, 1),
  (18, .if_icmp .ne 5, 3),
  (21, .iconst 1, 1),
  (22, .ireturn, 1),
  (23, .iinc 3 1, 3),
  (26, .goto (-24), 3),
  (29, .iconst 0, 1),
  (30, .ireturn, 1)]
def mi_M_leads : mi_T := ("DataflowLabModel", ({ cls := "DataflowLabModel", name := "leads", desc := "(II)Z" } : MethodName), prog_14_method_21_code, 4, (Option.some FieldType.boolean), [], tb_M_leads)
theorem mo_M_leads : mi_ok mi_M_leads := by
  show ∀ q ∈ tb_M_leads, decode prog_14_method_21_code q.1 = .ok q.2
  decide +kernel
theorem mw_M_leads : mi_w mi_M_leads 2 := ⟨tb_m 2078 (by decide +kernel) (by decide +kernel), tb_m 161 (by decide +kernel) rfl, ⟨by decide +kernel, by decide +kernel, by decide +kernel⟩, by decide +kernel⟩
theorem mv_M_leads : mi_wV mi_M_leads := ⟨tb_m 2077 (by decide +kernel) rfl, tb_m 84 (by decide +kernel) rfl⟩
def tb_M_isDefinition : List (Nat × Instr × Nat) := [(0, .aload_n 0, 1),
  (1, .iload_n 1, 1),
  (2, .iconst 0, 1),
  (3, .invokevirtual 96, 3),
  (6, .iconst 3, 1),
  (7, .if_icmp .eq 7, 3),
  (10, .iconst 1, 1),
  (11, .goto 4, 3),
  (14, .iconst 0, 1),
  (15, .ireturn, 1)]
def mi_M_isDefinition : mi_T := ("DataflowLabModel", ({ cls := "DataflowLabModel", name := "isDefinition", desc := "(I)Z" } : MethodName), prog_14_method_22_code, 2, (Option.some FieldType.boolean), [], tb_M_isDefinition)
theorem mo_M_isDefinition : mi_ok mi_M_isDefinition := by
  show ∀ q ∈ tb_M_isDefinition, decode prog_14_method_22_code q.1 = .ok q.2
  decide +kernel
theorem mw_M_isDefinition : mi_w mi_M_isDefinition 1 := ⟨tb_m 2109 (by decide +kernel) (by decide +kernel), tb_m 161 (by decide +kernel) rfl, ⟨by decide +kernel, by decide +kernel, by decide +kernel⟩, by decide +kernel⟩
theorem mv_M_isDefinition : mi_wV mi_M_isDefinition := ⟨tb_m 2108 (by decide +kernel) rfl, tb_m 90 (by decide +kernel) rfl⟩
def tb_M_defines : List (Nat × Instr × Nat) := [(0, .aload_n 0, 1),
  (1, .iload_n 1, 1),
  (2, .invokevirtual 99, 3),
  (5, .ifCond .eq 17, 3),
  (8, .aload_n 0, 1),
  (9, .iload_n 1, 1),
  (10, .iconst 1, 1),
  (11, .invokevirtual 96, 3),
  (14, .iload_n 2, 1),
  (15, .if_icmp .ne 7, 3),
  (18, .iconst 1, 1),
  (19, .goto 4, 3),
  (22, .iconst 0, 1),
  (23, .ireturn, 1)]
def mi_M_defines : mi_T := ("DataflowLabModel", ({ cls := "DataflowLabModel", name := "defines", desc := "(II)Z" } : MethodName), prog_14_method_23_code, 3, (Option.some FieldType.boolean), [], tb_M_defines)
theorem mo_M_defines : mi_ok mi_M_defines := by
  show ∀ q ∈ tb_M_defines, decode prog_14_method_23_code q.1 = .ok q.2
  decide +kernel
theorem mw_M_defines : mi_w mi_M_defines 2 := ⟨tb_m 2105 (by decide +kernel) (by decide +kernel), tb_m 161 (by decide +kernel) rfl, ⟨by decide +kernel, by decide +kernel, by decide +kernel⟩, by decide +kernel⟩
theorem mv_M_defines : mi_wV mi_M_defines := ⟨tb_m 2104 (by decide +kernel) rfl, tb_m 89 (by decide +kernel) rfl⟩
def tb_M_uses : List (Nat × Instr × Nat) := [(0, .aload_n 0, 1),
  (1, .iload_n 1, 1),
  (2, .iconst 0, 1),
  (3, .invokevirtual 96, 3),
  (6, .lookupswitch 54 #[(0, 26), (2, 28)], 26),
  (32, .iconst 0, 1),
  (33, .ireturn, 1),
  (34, .aload_n 0, 1),
  (35, .iload_n 1, 1),
  (36, .iconst 2, 1),
  (37, .invokevirtual 96, 3),
  (40, .iload_n 2, 1),
  (41, .if_icmp .eq 13, 3),
  (44, .aload_n 0, 1),
  (45, .iload_n 1, 1),
  (46, .iconst 4, 1),
  (47, .invokevirtual 96, 3),
  (50, .iload_n 2, 1),
  (51, .if_icmp .ne 7, 3),
  (54, .iconst 1, 1),
  (55, .goto 4, 3),
  (58, .iconst 0, 1),
  (59, .ireturn, 1),
  (60, .aload_n 0, 1),
  (61, .iload_n 1, 1),
  (62, .iconst 2, 1),
  (63, .invokevirtual 96, 3),
  (66, .iload_n 2, 1),
  (67, .if_icmp .ne 7, 3),
  (70, .iconst 1, 1),
  (71, .goto 4, 3),
  (74, .iconst 0, 1),
  (75, .ireturn, 1)]
def mi_M_uses : mi_T := ("DataflowLabModel", ({ cls := "DataflowLabModel", name := "uses", desc := "(II)Z" } : MethodName), prog_14_method_24_code, 3, (Option.some FieldType.boolean), [], tb_M_uses)
theorem mo_M_uses : mi_ok mi_M_uses := by
  show ∀ q ∈ tb_M_uses, decode prog_14_method_24_code q.1 = .ok q.2
  decide +kernel
theorem mw_M_uses : mi_w mi_M_uses 2 := ⟨tb_m 2145 (by decide +kernel) (by decide +kernel), tb_m 161 (by decide +kernel) rfl, ⟨by decide +kernel, by decide +kernel, by decide +kernel⟩, by decide +kernel⟩
theorem mv_M_uses : mi_wV mi_M_uses := ⟨tb_m 2144 (by decide +kernel) rfl, tb_m 94 (by decide +kernel) rfl⟩
def tb_M_usesAtExit : List (Nat × Instr × Nat) := [(0, .aload_n 0, 1),
  (1, .iload_n 1, 1),
  (2, .iconst 1, 1),
  (3, .invokevirtual 80, 3),
  (6, .iconst 2, 1),
  (7, .if_icmp .ne 17, 3),
  (10, .aload_n 0, 1),
  (11, .iload_n 1, 1),
  (12, .iconst 2, 1),
  (13, .invokevirtual 80, 3),
  (16, .iload_n 2, 1),
  (17, .if_icmp .ne 7, 3),
  (20, .iconst 1, 1),
  (21, .goto 4, 3),
  (24, .iconst 0, 1),
  (25, .ireturn, 1)]
def mi_M_usesAtExit : mi_T := ("DataflowLabModel", ({ cls := "DataflowLabModel", name := "usesAtExit", desc := "(II)Z" } : MethodName), prog_14_method_25_code, 3, (Option.some FieldType.boolean), [], tb_M_usesAtExit)
theorem mo_M_usesAtExit : mi_ok mi_M_usesAtExit := by
  show ∀ q ∈ tb_M_usesAtExit, decode prog_14_method_25_code q.1 = .ok q.2
  decide +kernel
theorem mw_M_usesAtExit : mi_w mi_M_usesAtExit 2 := ⟨tb_m 2153 (by decide +kernel) (by decide +kernel), tb_m 161 (by decide +kernel) rfl, ⟨by decide +kernel, by decide +kernel, by decide +kernel⟩, by decide +kernel⟩
theorem mv_M_usesAtExit : mi_wV mi_M_usesAtExit := ⟨tb_m 2152 (by decide +kernel) rfl, tb_m 96 (by decide +kernel) rfl⟩
def tb_M_definesWithin : List (Nat × Instr × Nat) := [(0, .iload_n 1, 1),
  (1, .istore 4, 2),
  (3, .iload 4, 2),
  (5, .iload_n 2, 1),
  (6, .if_icmp .ge 21, 3),
  (9, .aload_n 0, 1),
  (10, .iload 4, 2),
  (12, .iload_n 3, 1),
  (13, .invokevirtual 103, 3),
  (16, .ifCond .eq 5, 3),
  (19, .iconst 1, 1),
  (20, .ireturn, 1),
  (21, .iinc 4 1, 3),
  (24, .goto (-21), 3),
  (27, .iconst 0, 1),
  (28, .ireturn, 1)]
def mi_M_definesWithin : mi_T := ("DataflowLabModel", ({ cls := "DataflowLabModel", name := "definesWithin", desc := "(III)Z" } : MethodName), prog_14_method_26_code, 5, (Option.some FieldType.boolean), [], tb_M_definesWithin)
theorem mo_M_definesWithin : mi_ok mi_M_definesWithin := by
  show ∀ q ∈ tb_M_definesWithin, decode prog_14_method_26_code q.1 = .ok q.2
  decide +kernel
theorem mw_M_definesWithin : mi_w mi_M_definesWithin 3 := ⟨tb_m 2101 (by decide +kernel) (by decide +kernel), tb_m 161 (by decide +kernel) rfl, ⟨by decide +kernel, by decide +kernel, by decide +kernel⟩, by decide +kernel⟩
theorem mv_M_definesWithin : mi_wV mi_M_definesWithin := ⟨tb_m 2100 (by decide +kernel) rfl, tb_m 88 (by decide +kernel) rfl⟩
def tb_M_forgets : List (Nat × Instr × Nat) := [(0, .iconst 0, 1),
  (1, .istore_n 1, 1),
  (2, .iload_n 1, 1),
  (3, .bipush 12, 2),
  (5, .if_icmp .ge 16, 3),
  (8, .aload_n 0, 1),
  (9, .getfield 17, 3),
  (12, .iload_n 1, 1),
  (13, .iconst 0, 1),
  (14, .bastore, 1),
  (15, .iinc 1 1, 3),
  (18, .goto (-16), 3),
  (21, .return_, 1)]
def mi_M_forgets : mi_T := ("DataflowLabModel", ({ cls := "DataflowLabModel", name := "forgets", desc := "()V" } : MethodName), prog_14_method_27_code, 2, (Option.none : Option FieldType), [], tb_M_forgets)
theorem mo_M_forgets : mi_ok mi_M_forgets := by
  show ∀ q ∈ tb_M_forgets, decode prog_14_method_27_code q.1 = .ok q.2
  decide +kernel
theorem mw_M_forgets : mi_w mi_M_forgets 0 := ⟨tb_m 2093 (by decide +kernel) (by decide +kernel), tb_m 161 (by decide +kernel) rfl, ⟨by decide +kernel, by decide +kernel, by decide +kernel⟩, by decide +kernel⟩
theorem mv_M_forgets : mi_wV mi_M_forgets := ⟨tb_m 2092 (by decide +kernel) rfl, tb_m 86 (by decide +kernel) rfl⟩
def tb_M_walks : List (Nat × Instr × Nat) := [(0, .aload_n 0, 1),
  (1, .getfield 17, 3),
  (4, .iload_n 1, 1),
  (5, .baload, 1),
  (6, .ifCond .ne 8, 3),
  (9, .iload_n 1, 1),
  (10, .iload_n 3, 1),
  (11, .if_icmp .ne 4, 3),
  (14, .return_, 1),
  (15, .aload_n 0, 1),
  (16, .getfield 17, 3),
  (19, .iload_n 1, 1),
  (20, .iconst 1, 1),
  (21, .bastore, 1),
  (22, .iload_n 2, 1),
  (23, .iconst (-1), 1),
  (24, .if_icmp .eq 22, 3),
  (27, .aload_n 0, 1),
  (28, .aload_n 0, 1),
  (29, .iload_n 1, 1),
  (30, .invokevirtual 84, 3),
  (33, .aload_n 0, 1),
  (34, .iload_n 1, 1),
  (35, .invokevirtual 87, 3),
  (38, .iload_n 2, 1),
  (39, .invokevirtual 107, 3),
  (42, .ifCond .eq 4, 3),
  (45, .return_, 1),
  (46, .iconst 0, 1),
  (47, .istore 4, 2),
  (49, .iload 4, 2),
  (51, .aload_n 0, 1),
  (52, .iload_n 1, 1),
  (53, .invokevirtual 90, 3),
  (56, .if_icmp .ge 22, 3),
  (59, .aload_n 0, 1),
  (60, .aload_n 0, 1),
  (61, .iload_n 1, 1),
  (62, .iload 4, 2),
  (64, .invokevirtual 93, 3),
  (67, .iload_n 2, 1),
  (68, .iload_n 3, 1),
  (69, .invokevirtual 111, 3),
  (72, .iinc 4 1, 3),
  (75, .goto (-26), 3),
  (78, .return_, 1)]
def mi_M_walks : mi_T := ("DataflowLabModel", ({ cls := "DataflowLabModel", name := "walks", desc := "(III)V" } : MethodName), prog_14_method_28_code, 5, (Option.none : Option FieldType), [], tb_M_walks)
theorem mo_M_walks : mi_ok mi_M_walks := by
  show ∀ q ∈ tb_M_walks, decode prog_14_method_28_code q.1 = .ok q.2
  decide +kernel
theorem mw_M_walks : mi_w mi_M_walks 3 := ⟨tb_m 2097 (by decide +kernel) (by decide +kernel), tb_m 161 (by decide +kernel) rfl, ⟨by decide +kernel, by decide +kernel, by decide +kernel⟩, by decide +kernel⟩
theorem mv_M_walks : mi_wV mi_M_walks := ⟨tb_m 2096 (by decide +kernel) rfl, tb_m 87 (by decide +kernel) rfl⟩
def tb_M_isReached : List (Nat × Instr × Nat) := [(0, .aload_n 0, 1),
  (1, .invokevirtual 114, 3),
  (4, .aload_n 0, 1),
  (5, .iconst 0, 1),
  (6, .iconst (-1), 1),
  (7, .iload_n 2, 1),
  (8, .invokevirtual 111, 3),
  (11, .aload_n 0, 1),
  (12, .getfield 17, 3),
  (15, .iload_n 1, 1),
  (16, .baload, 1),
  (17, .ireturn, 1)]
def mi_M_isReached : mi_T := ("DataflowLabModel", ({ cls := "DataflowLabModel", name := "isReached", desc := "(II)Z" } : MethodName), prog_14_method_29_code, 3, (Option.some FieldType.boolean), [], tb_M_isReached)
theorem mo_M_isReached : mi_ok mi_M_isReached := by
  show ∀ q ∈ tb_M_isReached, decode prog_14_method_29_code q.1 = .ok q.2
  decide +kernel
theorem mw_M_isReached : mi_w mi_M_isReached 2 := ⟨tb_m 2089 (by decide +kernel) (by decide +kernel), tb_m 161 (by decide +kernel) rfl, ⟨by decide +kernel, by decide +kernel, by decide +kernel⟩, by decide +kernel⟩
theorem mv_M_isReached : mi_wV mi_M_isReached := ⟨tb_m 2088 (by decide +kernel) rfl, tb_m 85 (by decide +kernel) rfl⟩
def tb_M_reachedCount : List (Nat × Instr × Nat) := [(0, .aload_n 0, 1),
  (1, .invokevirtual 114, 3),
  (4, .aload_n 0, 1),
  (5, .iconst 0, 1),
  (6, .iconst (-1), 1),
  (7, .iconst (-1), 1),
  (8, .invokevirtual 111, 3),
  (11, .iconst 0, 1),
  (12, .istore_n 1, 1),
  (13, .iconst 0, 1),
  (14, .istore_n 2, 1),
  (15, .iload_n 2, 1),
  (16, .aload_n 0, 1),
  (17, .iconst 0, 1),
  (18, .invokevirtual 61, 3),
  (21, .if_icmp .ge 21, 3),
  (24, .iload_n 1, 1),
  (25, .aload_n 0, 1),
  (26, .getfield 17, 3),
  (29, .iload_n 2, 1),
  (30, .baload, 1),
  (31, .invokestatic 117, 3),
  (34, .iadd, 1),
  (35, .istore_n 1, 1),
  (36, .iinc 2 1, 3),
  (39, .goto (-24), 3),
  (42, .iload_n 1, 1),
  (43, .ireturn, 1)]
def mi_M_reachedCount : mi_T := ("DataflowLabModel", ({ cls := "DataflowLabModel", name := "reachedCount", desc := "()I" } : MethodName), prog_14_method_30_code, 3, (Option.some FieldType.int), [], tb_M_reachedCount)
theorem mo_M_reachedCount : mi_ok mi_M_reachedCount := by
  show ∀ q ∈ tb_M_reachedCount, decode prog_14_method_30_code q.1 = .ok q.2
  decide +kernel
theorem mw_M_reachedCount : mi_w mi_M_reachedCount 0 := ⟨tb_m 2445 (by decide +kernel) (by decide +kernel), tb_m 161 (by decide +kernel) rfl, ⟨by decide +kernel, by decide +kernel, by decide +kernel⟩, by decide +kernel⟩
theorem mv_M_reachedCount : mi_wV mi_M_reachedCount := ⟨tb_m 2444 (by decide +kernel) rfl, tb_m 135 (by decide +kernel) rfl⟩
def tb_M_reachesStart : List (Nat × Instr × Nat) := [(0, .aload_n 0, 1),
  (1, .iload_n 1, 1),
  (2, .invokevirtual 121, 3),
  (5, .istore_n 3, 1),
  (6, .aload_n 0, 1),
  (7, .iload_n 1, 1),
  (8, .iconst 1, 1),
  (9, .invokevirtual 96, 3),
  (12, .istore 4, 2),
  (14, .aload_n 0, 1),
  (15, .iload_n 1, 1),
  (16, .invokevirtual 99, 3),
  (19, .ifCond .eq 20, 3),
  (22, .aload_n 0, 1),
  (23, .iload_n 1, 1),
  (24, .iconst 1, 1),
  (25, .iadd, 1),
  (26, .aload_n 0, 1),
  (27, .iload_n 3, 1),
  (28, .invokevirtual 87, 3),
  (31, .iload 4, 2),
  (33, .invokevirtual 107, 3),
  (36, .ifCond .eq 5, 3),
  (39, .iconst 0, 1),
  (40, .ireturn, 1),
  (41, .aload_n 0, 1),
  (42, .invokevirtual 114, 3),
  (45, .iconst 0, 1),
  (46, .istore 5, 2),
  (48, .iload 5, 2),
  (50, .aload_n 0, 1),
  (51, .iload_n 3, 1),
  (52, .invokevirtual 90, 3),
  (55, .if_icmp .ge 23, 3),
  (58, .aload_n 0, 1),
  (59, .aload_n 0, 1),
  (60, .iload_n 3, 1),
  (61, .iload 5, 2),
  (63, .invokevirtual 93, 3),
  (66, .iload 4, 2),
  (68, .iconst (-1), 1),
  (69, .invokevirtual 111, 3),
  (72, .iinc 5 1, 3),
  (75, .goto (-27), 3),
  (78, .aload_n 0, 1),
  (79, .getfield 17, 3),
  (82, .iload_n 2, 1),
  (83, .baload, 1),
  (84, .ireturn, 1)]
def mi_M_reachesStart : mi_T := ("DataflowLabModel", ({ cls := "DataflowLabModel", name := "reachesStart", desc := "(II)Z" } : MethodName), prog_14_method_31_code, 6, (Option.some FieldType.boolean), [], tb_M_reachesStart)
theorem mo_M_reachesStart : mi_ok mi_M_reachesStart := by
  show ∀ q ∈ tb_M_reachesStart, decode prog_14_method_31_code q.1 = .ok q.2
  decide +kernel
theorem mw_M_reachesStart : mi_w mi_M_reachesStart 2 := ⟨tb_m 2121 (by decide +kernel) (by decide +kernel), tb_m 161 (by decide +kernel) rfl, ⟨by decide +kernel, by decide +kernel, by decide +kernel⟩, by decide +kernel⟩
theorem mv_M_reachesStart : mi_wV mi_M_reachesStart := ⟨tb_m 2120 (by decide +kernel) rfl, tb_m 91 (by decide +kernel) rfl⟩
def tb_M_reachesPlace : List (Nat × Instr × Nat) := [(0, .aload_n 0, 1),
  (1, .iload_n 1, 1),
  (2, .iconst 1, 1),
  (3, .invokevirtual 96, 3),
  (6, .istore 4, 2),
  (8, .aload_n 0, 1),
  (9, .iload_n 1, 1),
  (10, .invokevirtual 99, 3),
  (13, .ifCond .ne 5, 3),
  (16, .iconst 0, 1),
  (17, .ireturn, 1),
  (18, .iload_n 1, 1),
  (19, .aload_n 0, 1),
  (20, .iload_n 2, 1),
  (21, .invokevirtual 84, 3),
  (24, .iload_n 3, 1),
  (25, .iconst 1, 1),
  (26, .isub, 1),
  (27, .invokestatic 124, 3),
  (30, .ifCond .eq 18, 3),
  (33, .aload_n 0, 1),
  (34, .iload_n 1, 1),
  (35, .iconst 1, 1),
  (36, .iadd, 1),
  (37, .iload_n 3, 1),
  (38, .iload 4, 2),
  (40, .invokevirtual 107, 3),
  (43, .ifCond .ne 5, 3),
  (46, .iconst 1, 1),
  (47, .ireturn, 1),
  (48, .aload_n 0, 1),
  (49, .aload_n 0, 1),
  (50, .iload_n 2, 1),
  (51, .invokevirtual 84, 3),
  (54, .iload_n 3, 1),
  (55, .iload 4, 2),
  (57, .invokevirtual 107, 3),
  (60, .ifCond .ne 16, 3),
  (63, .aload_n 0, 1),
  (64, .iload_n 1, 1),
  (65, .iload_n 2, 1),
  (66, .invokevirtual 127, 3),
  (69, .ifCond .eq 7, 3),
  (72, .iconst 1, 1),
  (73, .goto 4, 3),
  (76, .iconst 0, 1),
  (77, .ireturn, 1)]
def mi_M_reachesPlace : mi_T := ("DataflowLabModel", ({ cls := "DataflowLabModel", name := "reachesPlace", desc := "(III)Z" } : MethodName), prog_14_method_32_code, 5, (Option.some FieldType.boolean), [], tb_M_reachesPlace)
theorem mo_M_reachesPlace : mi_ok mi_M_reachesPlace := by
  show ∀ q ∈ tb_M_reachesPlace, decode prog_14_method_32_code q.1 = .ok q.2
  decide +kernel
theorem mw_M_reachesPlace : mi_w mi_M_reachesPlace 3 := ⟨tb_m 2149 (by decide +kernel) (by decide +kernel), tb_m 161 (by decide +kernel) rfl, ⟨by decide +kernel, by decide +kernel, by decide +kernel⟩, by decide +kernel⟩
theorem mv_M_reachesPlace : mi_wV mi_M_reachesPlace := ⟨tb_m 2148 (by decide +kernel) rfl, tb_m 95 (by decide +kernel) rfl⟩
def tb_M_isFirstAt : List (Nat × Instr × Nat) := [(0, .aload_n 0, 1),
  (1, .invokevirtual 114, 3),
  (4, .aload_n 0, 1),
  (5, .iconst 0, 1),
  (6, .iload_n 2, 1),
  (7, .iconst (-1), 1),
  (8, .invokevirtual 111, 3),
  (11, .aload_n 0, 1),
  (12, .getfield 17, 3),
  (15, .iload_n 1, 1),
  (16, .baload, 1),
  (17, .ireturn, 1)]
def mi_M_isFirstAt : mi_T := ("DataflowLabModel", ({ cls := "DataflowLabModel", name := "isFirstAt", desc := "(II)Z" } : MethodName), prog_14_method_33_code, 3, (Option.some FieldType.boolean), [], tb_M_isFirstAt)
theorem mo_M_isFirstAt : mi_ok mi_M_isFirstAt := by
  show ∀ q ∈ tb_M_isFirstAt, decode prog_14_method_33_code q.1 = .ok q.2
  decide +kernel
theorem mw_M_isFirstAt : mi_w mi_M_isFirstAt 2 := ⟨tb_m 2137 (by decide +kernel) (by decide +kernel), tb_m 161 (by decide +kernel) rfl, ⟨by decide +kernel, by decide +kernel, by decide +kernel⟩, by decide +kernel⟩
theorem mv_M_isFirstAt : mi_wV mi_M_isFirstAt := ⟨tb_m 2136 (by decide +kernel) rfl, tb_m 93 (by decide +kernel) rfl⟩
def tb_M_isFirstAtPlace : List (Nat × Instr × Nat) := [(0, .aload_n 0, 1),
  (1, .aload_n 0, 1),
  (2, .iload_n 1, 1),
  (3, .invokevirtual 84, 3),
  (6, .iload_n 2, 1),
  (7, .iload_n 3, 1),
  (8, .invokevirtual 107, 3),
  (11, .ifCond .ne 16, 3),
  (14, .aload_n 0, 1),
  (15, .iload_n 1, 1),
  (16, .iload_n 3, 1),
  (17, .invokevirtual 130, 3),
  (20, .ifCond .eq 7, 3),
  (23, .iconst 1, 1),
  (24, .goto 4, 3),
  (27, .iconst 0, 1),
  (28, .ireturn, 1)]
def mi_M_isFirstAtPlace : mi_T := ("DataflowLabModel", ({ cls := "DataflowLabModel", name := "isFirstAtPlace", desc := "(III)Z" } : MethodName), prog_14_method_34_code, 4, (Option.some FieldType.boolean), [], tb_M_isFirstAtPlace)
theorem mo_M_isFirstAtPlace : mi_ok mi_M_isFirstAtPlace := by
  show ∀ q ∈ tb_M_isFirstAtPlace, decode prog_14_method_34_code q.1 = .ok q.2
  decide +kernel
theorem mw_M_isFirstAtPlace : mi_w mi_M_isFirstAtPlace 3 := ⟨tb_m 2161 (by decide +kernel) (by decide +kernel), tb_m 161 (by decide +kernel) rfl, ⟨by decide +kernel, by decide +kernel, by decide +kernel⟩, by decide +kernel⟩
theorem mv_M_isFirstAtPlace : mi_wV mi_M_isFirstAtPlace := ⟨tb_m 2160 (by decide +kernel) rfl, tb_m 97 (by decide +kernel) rfl⟩
def tb_M_fate : List (Nat × Instr × Nat) := [(0, .iload_n 2, 1),
  (1, .istore 4, 2),
  (3, .iload 4, 2),
  (5, .aload_n 0, 1),
  (6, .iload_n 1, 1),
  (7, .invokevirtual 87, 3),
  (10, .if_icmp .ge 33, 3),
  (13, .aload_n 0, 1),
  (14, .iload 4, 2),
  (16, .iload_n 3, 1),
  (17, .invokevirtual 133, 3),
  (20, .ifCond .eq 5, 3),
  (23, .iconst 1, 1),
  (24, .ireturn, 1),
  (25, .aload_n 0, 1),
  (26, .iload 4, 2),
  (28, .iload_n 3, 1),
  (29, .invokevirtual 103, 3),
  (32, .ifCond .eq 5, 3),
  (35, .iconst 0, 1),
  (36, .ireturn, 1),
  (37, .iinc 4 1, 3),
  (40, .goto (-37), 3),
  (43, .aload_n 0, 1),
  (44, .iload_n 1, 1),
  (45, .iload_n 3, 1),
  (46, .invokevirtual 136, 3),
  (49, .ifCond .eq 7, 3),
  (52, .iconst 1, 1),
  (53, .goto 4, 3),
  (56, .iconst (-1), 1),
  (57, .ireturn, 1)]
def mi_M_fate : mi_T := ("DataflowLabModel", ({ cls := "DataflowLabModel", name := "fate", desc := "(III)I" } : MethodName), prog_14_method_35_code, 5, (Option.some FieldType.int), [], tb_M_fate)
theorem mo_M_fate : mi_ok mi_M_fate := by
  show ∀ q ∈ tb_M_fate, decode prog_14_method_35_code q.1 = .ok q.2
  decide +kernel
theorem mw_M_fate : mi_w mi_M_fate 3 := ⟨tb_m 2173 (by decide +kernel) (by decide +kernel), tb_m 161 (by decide +kernel) rfl, ⟨by decide +kernel, by decide +kernel, by decide +kernel⟩, by decide +kernel⟩
theorem mv_M_fate : mi_wV mi_M_fate := ⟨tb_m 2172 (by decide +kernel) rfl, tb_m 99 (by decide +kernel) rfl⟩
def tb_M_isUsedFrom : List (Nat × Instr × Nat) := [(0, .aload_n 0, 1),
  (1, .getfield 17, 3),
  (4, .iload_n 1, 1),
  (5, .baload, 1),
  (6, .ifCond .eq 5, 3),
  (9, .iconst 0, 1),
  (10, .ireturn, 1),
  (11, .aload_n 0, 1),
  (12, .getfield 17, 3),
  (15, .iload_n 1, 1),
  (16, .iconst 1, 1),
  (17, .bastore, 1),
  (18, .aload_n 0, 1),
  (19, .iload_n 1, 1),
  (20, .aload_n 0, 1),
  (21, .iload_n 1, 1),
  (22, .invokevirtual 84, 3),
  (25, .iload_n 2, 1),
  (26, .invokevirtual 139, 3),
  (29, .istore_n 3, 1),
  (30, .iload_n 3, 1),
  (31, .iconst (-1), 1),
  (32, .if_icmp .eq 14, 3),
  (35, .iload_n 3, 1),
  (36, .iconst 1, 1),
  (37, .if_icmp .ne 7, 3),
  (40, .iconst 1, 1),
  (41, .goto 4, 3),
  (44, .iconst 0, 1),
  (45, .ireturn, 1),
  (46, .iconst 0, 1),
  (47, .istore 4, 2),
  (49, .iload 4, 2),
  (51, .aload_n 0, 1),
  (52, .iload_n 1, 1),
  (53, .invokevirtual 90, 3),
  (56, .if_icmp .ge 26, 3),
  (59, .aload_n 0, 1),
  (60, .aload_n 0, 1),
  (61, .iload_n 1, 1),
  (62, .iload 4, 2),
  (64, .invokevirtual 93, 3),
  (67, .iload_n 2, 1),
  (68, .invokevirtual 143, 3),
  (71, .ifCond .eq 5, 3),
  (74, .iconst 1, 1),
  (75, .ireturn, 1),
  (76, .iinc 4 1, 3),
  (79, .goto (-30), 3),
  (82, .iconst 0, 1),
  (83, .ireturn, 1)]
def mi_M_isUsedFrom : mi_T := ("DataflowLabModel", ({ cls := "DataflowLabModel", name := "isUsedFrom", desc := "(II)Z" } : MethodName), prog_14_method_36_code, 5, (Option.some FieldType.boolean), [], tb_M_isUsedFrom)
theorem mo_M_isUsedFrom : mi_ok mi_M_isUsedFrom := by
  show ∀ q ∈ tb_M_isUsedFrom, decode prog_14_method_36_code q.1 = .ok q.2
  decide +kernel
theorem mw_M_isUsedFrom : mi_w mi_M_isUsedFrom 2 := ⟨tb_m 2181 (by decide +kernel) (by decide +kernel), tb_m 161 (by decide +kernel) rfl, ⟨by decide +kernel, by decide +kernel, by decide +kernel⟩, by decide +kernel⟩
theorem mv_M_isUsedFrom : mi_wV mi_M_isUsedFrom := ⟨tb_m 2180 (by decide +kernel) rfl, tb_m 101 (by decide +kernel) rfl⟩
def tb_M_isLiveBehind : List (Nat × Instr × Nat) := [(0, .aload_n 0, 1),
  (1, .invokevirtual 114, 3),
  (4, .iconst 0, 1),
  (5, .istore_n 3, 1),
  (6, .iload_n 3, 1),
  (7, .aload_n 0, 1),
  (8, .iload_n 1, 1),
  (9, .invokevirtual 90, 3),
  (12, .if_icmp .ge 25, 3),
  (15, .aload_n 0, 1),
  (16, .aload_n 0, 1),
  (17, .iload_n 1, 1),
  (18, .iload_n 3, 1),
  (19, .invokevirtual 93, 3),
  (22, .iload_n 2, 1),
  (23, .invokevirtual 143, 3),
  (26, .ifCond .eq 5, 3),
  (29, .iconst 1, 1),
  (30, .ireturn, 1),
  (31, .iinc 3 1, 3),
  (34, .goto (-28), 3),
  (37, .iconst 0, 1),
  (38, .ireturn, 1)]
def mi_M_isLiveBehind : mi_T := ("DataflowLabModel", ({ cls := "DataflowLabModel", name := "isLiveBehind", desc := "(II)Z" } : MethodName), prog_14_method_37_code, 4, (Option.some FieldType.boolean), [], tb_M_isLiveBehind)
theorem mo_M_isLiveBehind : mi_ok mi_M_isLiveBehind := by
  show ∀ q ∈ tb_M_isLiveBehind, decode prog_14_method_37_code q.1 = .ok q.2
  decide +kernel
theorem mw_M_isLiveBehind : mi_w mi_M_isLiveBehind 2 := ⟨tb_m 2177 (by decide +kernel) (by decide +kernel), tb_m 161 (by decide +kernel) rfl, ⟨by decide +kernel, by decide +kernel, by decide +kernel⟩, by decide +kernel⟩
theorem mv_M_isLiveBehind : mi_wV mi_M_isLiveBehind := ⟨tb_m 2176 (by decide +kernel) rfl, tb_m 100 (by decide +kernel) rfl⟩
def tb_M_isLiveAt : List (Nat × Instr × Nat) := [(0, .aload_n 0, 1),
  (1, .iload_n 1, 1),
  (2, .iload_n 2, 1),
  (3, .iload_n 3, 1),
  (4, .invokevirtual 139, 3),
  (7, .istore 4, 2),
  (9, .iload 4, 2),
  (11, .iconst (-1), 1),
  (12, .if_icmp .ne 12, 3),
  (15, .aload_n 0, 1),
  (16, .iload_n 1, 1),
  (17, .iload_n 3, 1),
  (18, .invokevirtual 146, 3),
  (21, .goto 14, 3),
  (24, .iload 4, 2),
  (26, .iconst 1, 1),
  (27, .if_icmp .ne 7, 3),
  (30, .iconst 1, 1),
  (31, .goto 4, 3),
  (34, .iconst 0, 1),
  (35, .ireturn, 1)]
def mi_M_isLiveAt : mi_T := ("DataflowLabModel", ({ cls := "DataflowLabModel", name := "isLiveAt", desc := "(III)Z" } : MethodName), prog_14_method_38_code, 5, (Option.some FieldType.boolean), [], tb_M_isLiveAt)
theorem mo_M_isLiveAt : mi_ok mi_M_isLiveAt := by
  show ∀ q ∈ tb_M_isLiveAt, decode prog_14_method_38_code q.1 = .ok q.2
  decide +kernel
theorem mw_M_isLiveAt : mi_w mi_M_isLiveAt 3 := ⟨tb_m 2169 (by decide +kernel) (by decide +kernel), tb_m 161 (by decide +kernel) rfl, ⟨by decide +kernel, by decide +kernel, by decide +kernel⟩, by decide +kernel⟩
theorem mv_M_isLiveAt : mi_wV mi_M_isLiveAt := ⟨tb_m 2168 (by decide +kernel) rfl, tb_m 98 (by decide +kernel) rfl⟩
def tb_M_liveAt : List (Nat × Instr × Nat) := [(0, .iconst 0, 1),
  (1, .istore_n 3, 1),
  (2, .iconst 0, 1),
  (3, .istore 4, 2),
  (5, .iload 4, 2),
  (7, .bipush 8, 2),
  (9, .if_icmp .ge 23, 3),
  (12, .iload_n 3, 1),
  (13, .aload_n 0, 1),
  (14, .iload_n 1, 1),
  (15, .iload_n 2, 1),
  (16, .iload 4, 2),
  (18, .invokevirtual 149, 3),
  (21, .invokestatic 117, 3),
  (24, .iadd, 1),
  (25, .istore_n 3, 1),
  (26, .iinc 4 1, 3),
  (29, .goto (-24), 3),
  (32, .iload_n 3, 1),
  (33, .ireturn, 1)]
def mi_M_liveAt : mi_T := ("DataflowLabModel", ({ cls := "DataflowLabModel", name := "liveAt", desc := "(II)I" } : MethodName), prog_14_method_39_code, 5, (Option.some FieldType.int), [], tb_M_liveAt)
theorem mo_M_liveAt : mi_ok mi_M_liveAt := by
  show ∀ q ∈ tb_M_liveAt, decode prog_14_method_39_code q.1 = .ok q.2
  decide +kernel
theorem mw_M_liveAt : mi_w mi_M_liveAt 2 := ⟨tb_m 2193 (by decide +kernel) (by decide +kernel), tb_m 161 (by decide +kernel) rfl, ⟨by decide +kernel, by decide +kernel, by decide +kernel⟩, by decide +kernel⟩
theorem mv_M_liveAt : mi_wV mi_M_liveAt := ⟨tb_m 2192 (by decide +kernel) rfl, tb_m 102 (by decide +kernel) rfl⟩
def tb_M_isDead0 : List (Nat × Instr × Nat) := [(0, .aload_n 0, 1),
  (1, .iload_n 1, 1),
  (2, .invokevirtual 99, 3),
  (5, .ifCond .eq 28, 3),
  (8, .aload_n 0, 1),
  (9, .aload_n 0, 1),
  (10, .iload_n 1, 1),
  (11, .invokevirtual 121, 3),
  (14, .iload_n 1, 1),
  (15, .iconst 1, 1),
  (16, .iadd, 1),
  (17, .aload_n 0, 1),
  (18, .iload_n 1, 1),
  (19, .iconst 1, 1),
  (20, .invokevirtual 96, 3),
  (23, .invokevirtual 149, 3),
  (26, .ifCond .ne 7, 3),
  (29, .iconst 1, 1),
  (30, .goto 4, 3),
  (33, .iconst 0, 1),
  (34, .ireturn, 1)]
def mi_M_isDead0 : mi_T := ("DataflowLabModel", ({ cls := "DataflowLabModel", name := "isDead0", desc := "(I)Z" } : MethodName), prog_14_method_40_code, 2, (Option.some FieldType.boolean), [], tb_M_isDead0)
theorem mo_M_isDead0 : mi_ok mi_M_isDead0 := by
  show ∀ q ∈ tb_M_isDead0, decode prog_14_method_40_code q.1 = .ok q.2
  decide +kernel
theorem mw_M_isDead0 : mi_w mi_M_isDead0 1 := ⟨tb_m 2201 (by decide +kernel) (by decide +kernel), tb_m 161 (by decide +kernel) rfl, ⟨by decide +kernel, by decide +kernel, by decide +kernel⟩, by decide +kernel⟩
theorem mv_M_isDead0 : mi_wV mi_M_isDead0 := ⟨tb_m 2200 (by decide +kernel) rfl, tb_m 103 (by decide +kernel) rfl⟩
def tb_M_isSame : List (Nat × Instr × Nat) := [(0, .aload_n 0, 1),
  (1, .iload_n 2, 1),
  (2, .iconst 0, 1),
  (3, .invokevirtual 96, 3),
  (6, .iconst 2, 1),
  (7, .if_icmp .eq 5, 3),
  (10, .iconst 0, 1),
  (11, .ireturn, 1),
  (12, .aload_n 0, 1),
  (13, .iload_n 1, 1),
  (14, .iconst 2, 1),
  (15, .invokevirtual 96, 3),
  (18, .aload_n 0, 1),
  (19, .iload_n 2, 1),
  (20, .iconst 2, 1),
  (21, .invokevirtual 96, 3),
  (24, .if_icmp .ne 37, 3),
  (27, .aload_n 0, 1),
  (28, .iload_n 1, 1),
  (29, .iconst 3, 1),
  (30, .invokevirtual 96, 3),
  (33, .aload_n 0, 1),
  (34, .iload_n 2, 1),
  (35, .iconst 3, 1),
  (36, .invokevirtual 96, 3),
  (39, .if_icmp .ne 22, 3),
  (42, .aload_n 0, 1),
  (43, .iload_n 1, 1),
  (44, .iconst 4, 1),
  (45, .invokevirtual 96, 3),
  (48, .aload_n 0, 1),
  (49, .iload_n 2, 1),
  (50, .iconst 4, 1),
  (51, .invokevirtual 96, 3),
  (54, .if_icmp .ne 7, 3),
  (57, .iconst 1, 1),
  (58, .goto 4, 3),
  (61, .iconst 0, 1),
  (62, .ireturn, 1)]
def mi_M_isSame : mi_T := ("DataflowLabModel", ({ cls := "DataflowLabModel", name := "isSame", desc := "(II)Z" } : MethodName), prog_14_method_41_code, 3, (Option.some FieldType.boolean), [], tb_M_isSame)
theorem mo_M_isSame : mi_ok mi_M_isSame := by
  show ∀ q ∈ tb_M_isSame, decode prog_14_method_41_code q.1 = .ok q.2
  decide +kernel
theorem mw_M_isSame : mi_w mi_M_isSame 2 := ⟨tb_m 2234 (by decide +kernel) (by decide +kernel), tb_m 161 (by decide +kernel) rfl, ⟨by decide +kernel, by decide +kernel, by decide +kernel⟩, by decide +kernel⟩
theorem mv_M_isSame : mi_wV mi_M_isSame := ⟨tb_m 2233 (by decide +kernel) rfl, tb_m 107 (by decide +kernel) rfl⟩
def tb_M_carries : List (Nat × Instr × Nat) := [(0, .iload 4, 2),
  (2, .istore 5, 2),
  (4, .aload_n 0, 1),
  (5, .iload_n 2, 1),
  (6, .invokevirtual 84, 3),
  (9, .istore 6, 2),
  (11, .iload 6, 2),
  (13, .iload_n 3, 1),
  (14, .if_icmp .ge 55, 3),
  (17, .aload_n 0, 1),
  (18, .iload_n 1, 1),
  (19, .iload 6, 2),
  (21, .invokevirtual 152, 3),
  (24, .ifCond .eq 6, 3),
  (27, .iconst 1, 1),
  (28, .istore 5, 2),
  (30, .aload_n 0, 1),
  (31, .iload 6, 2),
  (33, .aload_n 0, 1),
  (34, .iload_n 1, 1),
  (35, .iconst 2, 1),
  (36, .invokevirtual 96, 3),
  (39, .invokevirtual 103, 3),
  (42, .ifCond .ne 18, 3),
  (45, .aload_n 0, 1),
  (46, .iload 6, 2),
  (48, .aload_n 0, 1),
  (49, .iload_n 1, 1),
  (50, .iconst 4, 1),
  (51, .invokevirtual 96, 3),
  (54, .invokevirtual 103, 3),
  (57, .ifCond .eq 6, 3),
  (60, .iconst 0, 1),
  (61, .istore 5, 2),
  (63, .iinc 6 1, 3),
  (66, .goto (-55), 3),
  (69, .iload 5, 2),
  (71, .ireturn, 1)]
def mi_M_carries : mi_T := ("DataflowLabModel", ({ cls := "DataflowLabModel", name := "carries", desc := "(IIIZ)Z" } : MethodName), prog_14_method_42_code, 7, (Option.some FieldType.boolean), [], tb_M_carries)
theorem mo_M_carries : mi_ok mi_M_carries := by
  show ∀ q ∈ tb_M_carries, decode prog_14_method_42_code q.1 = .ok q.2
  decide +kernel
theorem mw_M_carries : mi_w mi_M_carries 4 := ⟨tb_m 2254 (by decide +kernel) (by decide +kernel), tb_m 161 (by decide +kernel) rfl, ⟨by decide +kernel, by decide +kernel, by decide +kernel⟩, by decide +kernel⟩
theorem mv_M_carries : mi_wV mi_M_carries := ⟨tb_m 2253 (by decide +kernel) rfl, tb_m 111 (by decide +kernel) rfl⟩
def tb_M_findsLacking : List (Nat × Instr × Nat) := [(0, .iconst 0, 1),
  (1, .istore_n 2, 1),
  (2, .iload_n 2, 1),
  (3, .bipush 12, 2),
  (5, .if_icmp .ge 24, 3),
  (8, .aload_n 0, 1),
  (9, .getfield 20, 3),
  (12, .iload_n 2, 1),
  (13, .iload_n 2, 1),
  (14, .ifCond .ne 7, 3),
  (17, .iconst 1, 1),
  (18, .goto 4, 3),
  (21, .iconst 0, 1),
  (22, .bastore, 1),
  (23, .iinc 2 1, 3),
  (26, .goto (-24), 3),
  (29, .iconst 1, 1),
  (30, .istore_n 2, 1),
  (31, .iload_n 2, 1),
  (32, .ifCond .eq 123, 3),
  (35, .iconst 0, 1),
  (36, .istore_n 2, 1),
  (37, .iconst 0, 1),
  (38, .istore_n 3, 1),
  (39, .iload_n 3, 1),
  (40, .aload_n 0, 1),
  (41, .iconst 0, 1),
  (42, .invokevirtual 61, 3),
  (45, .if_icmp .ge 107, 3),
  (48, .aload_n 0, 1),
  (49, .iload_n 3, 1),
  (50, .iconst (-1), 1),
  (51, .invokevirtual 155, 3),
  (54, .ifCond .ne 6, 3),
  (57, .goto 89, 3),
  (60, .aload_n 0, 1),
  (61, .iload_n 1, 1),
  (62, .iload_n 3, 1),
  (63, .aload_n 0, 1),
  (64, .iload_n 3, 1),
  (65, .invokevirtual 87, 3),
  (68, .aload_n 0, 1),
  (69, .getfield 20, 3),
  (72, .iload_n 3, 1),
  (73, .baload, 1),
  (74, .ifCond .ne 7, 3),
  (77, .iconst 1, 1),
  (78, .goto 4, 3),
  (81, .iconst 0, 1),
  (82, .invokevirtual 158, 3),
  (85, .ifCond .eq 6, 3),
  (88, .goto 58, 3),
  (91, .iconst 0, 1),
  (92, .istore 4, 2),
  (94, .iload 4, 2),
  (96, .aload_n 0, 1),
  (97, .iload_n 3, 1),
  (98, .invokevirtual 90, 3),
  (101, .if_icmp .ge 45, 3),
  (104, .iload_n 2, 1),
  (105, .aload_n 0, 1),
  (106, .getfield 20, 3),
  (109, .aload_n 0, 1),
  (110, .iload_n 3, 1),
  (111, .iload 4, 2),
  (113, .invokevirtual 93, 3),
  (116, .baload, 1),
  (117, .ifCond .ne 7, 3),
  (120, .iconst 1, 1),
  (121, .goto 4, 3),
  (124, .iconst 0, 1),
  (125, .ior, 1),
  (126, .istore_n 2, 1),
  (127, .aload_n 0, 1),
  (128, .getfield 20, 3),
  (131, .aload_n 0, 1),
  (132, .iload_n 3, 1),
  (133, .iload 4, 2),
  (135, .invokevirtual 93, 3),
  (138, .iconst 1, 1),
  (139, .bastore, 1),
  (140, .iinc 4 1, 3),
  (143, .goto (-49), 3),
  (146, .iinc 3 1, 3),
  (149, .goto (-110), 3),
  (152, .goto (-121), 3),
  (155, .return_, 1)]
def mi_M_findsLacking : mi_T := ("DataflowLabModel", ({ cls := "DataflowLabModel", name := "findsLacking", desc := "(I)V" } : MethodName), prog_14_method_43_code, 5, (Option.none : Option FieldType), [], tb_M_findsLacking)
theorem mo_M_findsLacking : mi_ok mi_M_findsLacking := by
  show ∀ q ∈ tb_M_findsLacking, decode prog_14_method_43_code q.1 = .ok q.2
  decide +kernel
theorem mw_M_findsLacking : mi_w mi_M_findsLacking 1 := ⟨tb_m 2250 (by decide +kernel) (by decide +kernel), tb_m 161 (by decide +kernel) rfl, ⟨by decide +kernel, by decide +kernel, by decide +kernel⟩, by decide +kernel⟩
theorem mv_M_findsLacking : mi_wV mi_M_findsLacking := ⟨tb_m 2249 (by decide +kernel) rfl, tb_m 110 (by decide +kernel) rfl⟩
def tb_M_isAvailable : List (Nat × Instr × Nat) := [(0, .aload_n 0, 1),
  (1, .iload_n 2, 1),
  (2, .iconst (-1), 1),
  (3, .invokevirtual 155, 3),
  (6, .ifCond .ne 5, 3),
  (9, .iconst 0, 1),
  (10, .ireturn, 1),
  (11, .aload_n 0, 1),
  (12, .iload_n 1, 1),
  (13, .invokevirtual 162, 3),
  (16, .aload_n 0, 1),
  (17, .iload_n 1, 1),
  (18, .iload_n 2, 1),
  (19, .iload_n 3, 1),
  (20, .aload_n 0, 1),
  (21, .getfield 20, 3),
  (24, .iload_n 2, 1),
  (25, .baload, 1),
  (26, .ifCond .ne 7, 3),
  (29, .iconst 1, 1),
  (30, .goto 4, 3),
  (33, .iconst 0, 1),
  (34, .invokevirtual 158, 3),
  (37, .ireturn, 1)]
def mi_M_isAvailable : mi_T := ("DataflowLabModel", ({ cls := "DataflowLabModel", name := "isAvailable", desc := "(III)Z" } : MethodName), prog_14_method_44_code, 4, (Option.some FieldType.boolean), [], tb_M_isAvailable)
theorem mo_M_isAvailable : mi_ok mi_M_isAvailable := by
  show ∀ q ∈ tb_M_isAvailable, decode prog_14_method_44_code q.1 = .ok q.2
  decide +kernel
theorem mw_M_isAvailable : mi_w mi_M_isAvailable 3 := ⟨tb_m 2246 (by decide +kernel) (by decide +kernel), tb_m 161 (by decide +kernel) rfl, ⟨by decide +kernel, by decide +kernel, by decide +kernel⟩, by decide +kernel⟩
theorem mv_M_isAvailable : mi_wV mi_M_isAvailable := ⟨tb_m 2245 (by decide +kernel) rfl, tb_m 109 (by decide +kernel) rfl⟩
def tb_M_isNewest : List (Nat × Instr × Nat) := [(0, .aload_n 0, 1),
  (1, .iload_n 1, 1),
  (2, .iconst 0, 1),
  (3, .invokevirtual 96, 3),
  (6, .iconst 2, 1),
  (7, .if_icmp .eq 5, 3),
  (10, .iconst 0, 1),
  (11, .ireturn, 1),
  (12, .iconst 0, 1),
  (13, .istore_n 2, 1),
  (14, .iload_n 2, 1),
  (15, .iload_n 1, 1),
  (16, .if_icmp .ge 20, 3),
  (19, .aload_n 0, 1),
  (20, .iload_n 1, 1),
  (21, .iload_n 2, 1),
  (22, .invokevirtual 152, 3),
  (25, .ifCond .eq 5, 3),
  (28, .iconst 0, 1),
  (29, .ireturn, 1),
  (30, .iinc 2 1, 3),
  (33, .goto (-19), 3),
  (36, .iconst 1, 1),
  (37, .ireturn, 1)]
def mi_M_isNewest : mi_T := ("DataflowLabModel", ({ cls := "DataflowLabModel", name := "isNewest", desc := "(I)Z" } : MethodName), prog_14_method_45_code, 3, (Option.some FieldType.boolean), [], tb_M_isNewest)
theorem mo_M_isNewest : mi_ok mi_M_isNewest := by
  show ∀ q ∈ tb_M_isNewest, decode prog_14_method_45_code q.1 = .ok q.2
  decide +kernel
theorem mw_M_isNewest : mi_w mi_M_isNewest 1 := ⟨tb_m 2230 (by decide +kernel) (by decide +kernel), tb_m 161 (by decide +kernel) rfl, ⟨by decide +kernel, by decide +kernel, by decide +kernel⟩, by decide +kernel⟩
theorem mv_M_isNewest : mi_wV mi_M_isNewest := ⟨tb_m 2229 (by decide +kernel) rfl, tb_m 106 (by decide +kernel) rfl⟩
def tb_M_isRedundant0 : List (Nat × Instr × Nat) := [(0, .aload_n 0, 1),
  (1, .iload_n 1, 1),
  (2, .iconst 0, 1),
  (3, .invokevirtual 96, 3),
  (6, .iconst 2, 1),
  (7, .if_icmp .ne 21, 3),
  (10, .aload_n 0, 1),
  (11, .iload_n 1, 1),
  (12, .aload_n 0, 1),
  (13, .iload_n 1, 1),
  (14, .invokevirtual 121, 3),
  (17, .iload_n 1, 1),
  (18, .invokevirtual 166, 3),
  (21, .ifCond .eq 7, 3),
  (24, .iconst 1, 1),
  (25, .goto 4, 3),
  (28, .iconst 0, 1),
  (29, .ireturn, 1)]
def mi_M_isRedundant0 : mi_T := ("DataflowLabModel", ({ cls := "DataflowLabModel", name := "isRedundant0", desc := "(I)Z" } : MethodName), prog_14_method_46_code, 2, (Option.some FieldType.boolean), [], tb_M_isRedundant0)
theorem mo_M_isRedundant0 : mi_ok mi_M_isRedundant0 := by
  show ∀ q ∈ tb_M_isRedundant0, decode prog_14_method_46_code q.1 = .ok q.2
  decide +kernel
theorem mw_M_isRedundant0 : mi_w mi_M_isRedundant0 1 := ⟨tb_m 2242 (by decide +kernel) (by decide +kernel), tb_m 161 (by decide +kernel) rfl, ⟨by decide +kernel, by decide +kernel, by decide +kernel⟩, by decide +kernel⟩
theorem mv_M_isRedundant0 : mi_wV mi_M_isRedundant0 := ⟨tb_m 2241 (by decide +kernel) rfl, tb_m 108 (by decide +kernel) rfl⟩
def tb_M_governs : List (Nat × Instr × Nat) := [(0, .aload_n 0, 1),
  (1, .iload_n 1, 1),
  (2, .iconst (-1), 1),
  (3, .invokevirtual 155, 3),
  (6, .ifCond .eq 12, 3),
  (9, .aload_n 0, 1),
  (10, .iload_n 2, 1),
  (11, .iconst (-1), 1),
  (12, .invokevirtual 155, 3),
  (15, .ifCond .ne 5, 3),
  (18, .iconst 0, 1),
  (19, .ireturn, 1),
  (20, .iload_n 1, 1),
  (21, .iload_n 2, 1),
  (22, .if_icmp .eq 12, 3),
  (25, .aload_n 0, 1),
  (26, .iload_n 2, 1),
  (27, .iload_n 1, 1),
  (28, .invokevirtual 155, 3),
  (31, .ifCond .ne 7, 3),
  (34, .iconst 1, 1),
  (35, .goto 4, 3),
  (38, .iconst 0, 1),
  (39, .ireturn, 1)]
def mi_M_governs : mi_T := ("DataflowLabModel", ({ cls := "DataflowLabModel", name := "governs", desc := "(II)Z" } : MethodName), prog_14_method_47_code, 3, (Option.some FieldType.boolean), [], tb_M_governs)
theorem mo_M_governs : mi_ok mi_M_governs := by
  show ∀ q ∈ tb_M_governs, decode prog_14_method_47_code q.1 = .ok q.2
  decide +kernel
theorem mw_M_governs : mi_w mi_M_governs 2 := ⟨tb_m 2270 (by decide +kernel) (by decide +kernel), tb_m 161 (by decide +kernel) rfl, ⟨by decide +kernel, by decide +kernel, by decide +kernel⟩, by decide +kernel⟩
theorem mv_M_governs : mi_wV mi_M_governs := ⟨tb_m 2269 (by decide +kernel) rfl, tb_m 112 (by decide +kernel) rfl⟩
def tb_M_governors : List (Nat × Instr × Nat) := [(0, .iconst 0, 1),
  (1, .istore_n 2, 1),
  (2, .iconst 0, 1),
  (3, .istore_n 3, 1),
  (4, .iload_n 3, 1),
  (5, .aload_n 0, 1),
  (6, .iconst 0, 1),
  (7, .invokevirtual 61, 3),
  (10, .if_icmp .ge 21, 3),
  (13, .iload_n 2, 1),
  (14, .aload_n 0, 1),
  (15, .iload_n 3, 1),
  (16, .iload_n 1, 1),
  (17, .invokevirtual 169, 3),
  (20, .invokestatic 117, 3),
  (23, .iadd, 1),
  (24, .istore_n 2, 1),
  (25, .iinc 3 1, 3),
  (28, .goto (-24), 3),
  (31, .iload_n 2, 1),
  (32, .ireturn, 1)]
def mi_M_governors : mi_T := ("DataflowLabModel", ({ cls := "DataflowLabModel", name := "governors", desc := "(I)I" } : MethodName), prog_14_method_48_code, 4, (Option.some FieldType.int), [], tb_M_governors)
theorem mo_M_governors : mi_ok mi_M_governors := by
  show ∀ q ∈ tb_M_governors, decode prog_14_method_48_code q.1 = .ok q.2
  decide +kernel
theorem mw_M_governors : mi_w mi_M_governors 1 := ⟨tb_m 2282 (by decide +kernel) (by decide +kernel), tb_m 161 (by decide +kernel) rfl, ⟨by decide +kernel, by decide +kernel, by decide +kernel⟩, by decide +kernel⟩
theorem mv_M_governors : mi_wV mi_M_governors := ⟨tb_m 2281 (by decide +kernel) rfl, tb_m 114 (by decide +kernel) rfl⟩
def tb_M_isBackEdge : List (Nat × Instr × Nat) := [(0, .aload_n 0, 1),
  (1, .iload_n 1, 1),
  (2, .iload_n 2, 1),
  (3, .invokevirtual 172, 3),
  (6, .ifCond .eq 16, 3),
  (9, .aload_n 0, 1),
  (10, .iload_n 2, 1),
  (11, .iload_n 1, 1),
  (12, .invokevirtual 169, 3),
  (15, .ifCond .eq 7, 3),
  (18, .iconst 1, 1),
  (19, .goto 4, 3),
  (22, .iconst 0, 1),
  (23, .ireturn, 1)]
def mi_M_isBackEdge : mi_T := ("DataflowLabModel", ({ cls := "DataflowLabModel", name := "isBackEdge", desc := "(II)Z" } : MethodName), prog_14_method_49_code, 3, (Option.some FieldType.boolean), [], tb_M_isBackEdge)
theorem mo_M_isBackEdge : mi_ok mi_M_isBackEdge := by
  show ∀ q ∈ tb_M_isBackEdge, decode prog_14_method_49_code q.1 = .ok q.2
  decide +kernel
theorem mw_M_isBackEdge : mi_w mi_M_isBackEdge 2 := ⟨tb_m 2294 (by decide +kernel) (by decide +kernel), tb_m 161 (by decide +kernel) rfl, ⟨by decide +kernel, by decide +kernel, by decide +kernel⟩, by decide +kernel⟩
theorem mv_M_isBackEdge : mi_wV mi_M_isBackEdge := ⟨tb_m 2293 (by decide +kernel) rfl, tb_m 115 (by decide +kernel) rfl⟩
def tb_M_isHead : List (Nat × Instr × Nat) := [(0, .iconst 0, 1),
  (1, .istore_n 2, 1),
  (2, .iload_n 2, 1),
  (3, .aload_n 0, 1),
  (4, .iconst 0, 1),
  (5, .invokevirtual 61, 3),
  (8, .if_icmp .ge 20, 3),
  (11, .aload_n 0, 1),
  (12, .iload_n 2, 1),
  (13, .iload_n 1, 1),
  (14, .invokevirtual 175, 3),
  (17, .ifCond .eq 5, 3),
  (20, .iconst 1, 1),
  (21, .ireturn, 1),
  (22, .iinc 2 1, 3),
  (25, .goto (-23), 3),
  (28, .iconst 0, 1),
  (29, .ireturn, 1)]
def mi_M_isHead : mi_T := ("DataflowLabModel", ({ cls := "DataflowLabModel", name := "isHead", desc := "(I)Z" } : MethodName), prog_14_method_50_code, 3, (Option.some FieldType.boolean), [], tb_M_isHead)
theorem mo_M_isHead : mi_ok mi_M_isHead := by
  show ∀ q ∈ tb_M_isHead, decode prog_14_method_50_code q.1 = .ok q.2
  decide +kernel
theorem mw_M_isHead : mi_w mi_M_isHead 1 := ⟨tb_m 2306 (by decide +kernel) (by decide +kernel), tb_m 161 (by decide +kernel) rfl, ⟨by decide +kernel, by decide +kernel, by decide +kernel⟩, by decide +kernel⟩
theorem mv_M_isHead : mi_wV mi_M_isHead := ⟨tb_m 2305 (by decide +kernel) rfl, tb_m 117 (by decide +kernel) rfl⟩
def tb_M_isInLoop : List (Nat × Instr × Nat) := [(0, .aload_n 0, 1),
  (1, .iload_n 2, 1),
  (2, .invokevirtual 178, 3),
  (5, .ifCond .eq 12, 3),
  (8, .aload_n 0, 1),
  (9, .iload_n 1, 1),
  (10, .iconst (-1), 1),
  (11, .invokevirtual 155, 3),
  (14, .ifCond .ne 5, 3),
  (17, .iconst 0, 1),
  (18, .ireturn, 1),
  (19, .iload_n 1, 1),
  (20, .iload_n 2, 1),
  (21, .if_icmp .ne 5, 3),
  (24, .iconst 1, 1),
  (25, .ireturn, 1),
  (26, .bipush 12, 2),
  (28, .newarray .boolean, 2),
  (30, .astore_n 3, 1),
  (31, .aload_n 0, 1),
  (32, .invokevirtual 114, 3),
  (35, .aload_n 0, 1),
  (36, .iload_n 1, 1),
  (37, .iconst (-1), 1),
  (38, .iload_n 2, 1),
  (39, .invokevirtual 111, 3),
  (42, .iconst 0, 1),
  (43, .istore 4, 2),
  (45, .iload 4, 2),
  (47, .bipush 12, 2),
  (49, .if_icmp .ge 20, 3),
  (52, .aload_n 3, 1),
  (53, .iload 4, 2),
  (55, .aload_n 0, 1),
  (56, .getfield 17, 3),
  (59, .iload 4, 2),
  (61, .baload, 1),
  (62, .bastore, 1),
  (63, .iinc 4 1, 3),
  (66, .goto (-21), 3),
  (69, .iconst 0, 1),
  (70, .istore 4, 2),
  (72, .iload 4, 2),
  (74, .aload_n 0, 1),
  (75, .iconst 0, 1),
  (76, .invokevirtual 61, 3),
  (79, .if_icmp .ge 28, 3),
  (82, .aload_n 3, 1),
  (83, .iload 4, 2),
  (85, .baload, 1),
  (86, .ifCond .eq 15, 3),
  (89, .aload_n 0, 1),
  (90, .iload 4, 2),
  (92, .iload_n 2, 1),
  (93, .invokevirtual 175, 3),
  (96, .ifCond .eq 5, 3),
  (99, .iconst 1, 1),
  (100, .ireturn, 1),
  (101, .iinc 4 1, 3),
  (104, .goto (-32), 3),
  (107, .iconst 0, 1),
  (108, .ireturn, 1)]
def mi_M_isInLoop : mi_T := ("DataflowLabModel", ({ cls := "DataflowLabModel", name := "isInLoop", desc := "(II)Z" } : MethodName), prog_14_method_51_code, 5, (Option.some FieldType.boolean), [], tb_M_isInLoop)
theorem mo_M_isInLoop : mi_ok mi_M_isInLoop := by
  show ∀ q ∈ tb_M_isInLoop, decode prog_14_method_51_code q.1 = .ok q.2
  decide +kernel
theorem mw_M_isInLoop : mi_w mi_M_isInLoop 2 := ⟨tb_m 2302 (by decide +kernel) (by decide +kernel), tb_m 161 (by decide +kernel) rfl, ⟨by decide +kernel, by decide +kernel, by decide +kernel⟩, by decide +kernel⟩
theorem mv_M_isInLoop : mi_wV mi_M_isInLoop := ⟨tb_m 2301 (by decide +kernel) rfl, tb_m 116 (by decide +kernel) rfl⟩
def tb_M_meets : List (Nat × Instr × Nat) := [(0, .iload_n 0, 1),
  (1, .bipush (-2), 2),
  (3, .if_icmp .ne 5, 3),
  (6, .iload_n 1, 1),
  (7, .ireturn, 1),
  (8, .iload_n 1, 1),
  (9, .bipush (-2), 2),
  (11, .if_icmp .eq 8, 3),
  (14, .iload_n 0, 1),
  (15, .iload_n 1, 1),
  (16, .if_icmp .ne 7, 3),
  (19, .iload_n 0, 1),
  (20, .goto 4, 3),
  (23, .iconst (-1), 1),
  (24, .ireturn, 1)]
def mi_M_meets : mi_T := ("DataflowLabModel", ({ cls := "DataflowLabModel", name := "meets", desc := "(II)I" } : MethodName), prog_14_method_52_code, 2, (Option.some FieldType.int), [], tb_M_meets)
theorem mo_M_meets : mi_ok mi_M_meets := by
  show ∀ q ∈ tb_M_meets, decode prog_14_method_52_code q.1 = .ok q.2
  decide +kernel
theorem mw_M_meets : mi_w mi_M_meets 2 := ⟨tb_m 2341 (by decide +kernel) (by decide +kernel), tb_m 161 (by decide +kernel) rfl, ⟨by decide +kernel, by decide +kernel, by decide +kernel⟩, by decide +kernel⟩
theorem mv_M_meets : Cond.static (mi_y mi_M_meets) ∈ tb_G := tb_m 2340 (by decide +kernel) rfl
def tb_M_calculates : List (Nat × Instr × Nat) := [(0, .iload_n 1, 1),
  (1, .bipush (-2), 2),
  (3, .if_icmp .eq 9, 3),
  (6, .iload_n 3, 1),
  (7, .bipush (-2), 2),
  (9, .if_icmp .ne 20, 3),
  (12, .iload_n 1, 1),
  (13, .iconst (-1), 1),
  (14, .if_icmp .eq 8, 3),
  (17, .iload_n 3, 1),
  (18, .iconst (-1), 1),
  (19, .if_icmp .ne 7, 3),
  (22, .iconst (-1), 1),
  (23, .goto 5, 3),
  (26, .bipush (-2), 2),
  (28, .ireturn, 1),
  (29, .iload_n 1, 1),
  (30, .iconst (-1), 1),
  (31, .if_icmp .eq 8, 3),
  (34, .iload_n 3, 1),
  (35, .iconst (-1), 1),
  (36, .if_icmp .ne 5, 3),
  (39, .iconst (-1), 1),
  (40, .ireturn, 1),
  (41, .iload_n 2, 1),
  (42, .lookupswitch 46 #[(0, 26), (1, 34)], 26),
  (68, .iload_n 1, 1),
  (69, .iload_n 3, 1),
  (70, .iadd, 1),
  (71, .sipush 1000, 3),
  (74, .irem, 1),
  (75, .ireturn, 1),
  (76, .iload_n 1, 1),
  (77, .iload_n 3, 1),
  (78, .isub, 1),
  (79, .sipush 1000, 3),
  (82, .iadd, 1),
  (83, .sipush 1000, 3),
  (86, .irem, 1),
  (87, .ireturn, 1),
  (88, .iload_n 1, 1),
  (89, .iload_n 3, 1),
  (90, .imul, 1),
  (91, .sipush 1000, 3),
  (94, .irem, 1),
  (95, .ireturn, 1)]
def mi_M_calculates : mi_T := ("DataflowLabModel", ({ cls := "DataflowLabModel", name := "calculates", desc := "(III)I" } : MethodName), prog_14_method_53_code, 4, (Option.some FieldType.int), [], tb_M_calculates)
theorem mo_M_calculates : mi_ok mi_M_calculates := by
  show ∀ q ∈ tb_M_calculates, decode prog_14_method_53_code q.1 = .ok q.2
  decide +kernel
theorem mw_M_calculates : mi_w mi_M_calculates 3 := ⟨tb_m 2338 (by decide +kernel) (by decide +kernel), tb_m 161 (by decide +kernel) rfl, ⟨by decide +kernel, by decide +kernel, by decide +kernel⟩, by decide +kernel⟩
theorem mv_M_calculates : mi_wV mi_M_calculates := ⟨tb_m 2337 (by decide +kernel) rfl, tb_m 123 (by decide +kernel) rfl⟩
def tb_M_given : List (Nat × Instr × Nat) := [(0, .aload_n 0, 1),
  (1, .iload_n 1, 1),
  (2, .iconst 0, 1),
  (3, .invokevirtual 96, 3),
  (6, .lookupswitch 45 #[(0, 26), (1, 33)], 26),
  (32, .aload_n 0, 1),
  (33, .iload_n 1, 1),
  (34, .iconst 2, 1),
  (35, .invokevirtual 96, 3),
  (38, .ireturn, 1),
  (39, .aload_n 0, 1),
  (40, .getfield 26, 3),
  (43, .aload_n 0, 1),
  (44, .iload_n 1, 1),
  (45, .iconst 2, 1),
  (46, .invokevirtual 96, 3),
  (49, .iaload, 1),
  (50, .ireturn, 1),
  (51, .aload_n 0, 1),
  (52, .aload_n 0, 1),
  (53, .getfield 26, 3),
  (56, .aload_n 0, 1),
  (57, .iload_n 1, 1),
  (58, .iconst 2, 1),
  (59, .invokevirtual 96, 3),
  (62, .iaload, 1),
  (63, .aload_n 0, 1),
  (64, .iload_n 1, 1),
  (65, .iconst 3, 1),
  (66, .invokevirtual 96, 3),
  (69, .aload_n 0, 1),
  (70, .getfield 26, 3),
  (73, .aload_n 0, 1),
  (74, .iload_n 1, 1),
  (75, .iconst 4, 1),
  (76, .invokevirtual 96, 3),
  (79, .iaload, 1),
  (80, .invokevirtual 181, 3),
  (83, .ireturn, 1)]
def mi_M_given : mi_T := ("DataflowLabModel", ({ cls := "DataflowLabModel", name := "given", desc := "(I)I" } : MethodName), prog_14_method_54_code, 2, (Option.some FieldType.int), [], tb_M_given)
theorem mo_M_given : mi_ok mi_M_given := by
  show ∀ q ∈ tb_M_given, decode prog_14_method_54_code q.1 = .ok q.2
  decide +kernel
theorem mw_M_given : mi_w mi_M_given 1 := ⟨tb_m 2334 (by decide +kernel) (by decide +kernel), tb_m 161 (by decide +kernel) rfl, ⟨by decide +kernel, by decide +kernel, by decide +kernel⟩, by decide +kernel⟩
theorem mv_M_given : mi_wV mi_M_given := ⟨tb_m 2333 (by decide +kernel) rfl, tb_m 122 (by decide +kernel) rfl⟩
def tb_M_comesTo : List (Nat × Instr × Nat) := [(0, .iconst 0, 1),
  (1, .istore_n 3, 1),
  (2, .iload_n 3, 1),
  (3, .bipush 8, 2),
  (5, .if_icmp .ge 26, 3),
  (8, .aload_n 0, 1),
  (9, .getfield 26, 3),
  (12, .iload_n 3, 1),
  (13, .aload_n 0, 1),
  (14, .getfield 23, 3),
  (17, .bipush 8, 2),
  (19, .iload_n 1, 1),
  (20, .imul, 1),
  (21, .iload_n 3, 1),
  (22, .iadd, 1),
  (23, .iaload, 1),
  (24, .iastore, 1),
  (25, .iinc 3 1, 3),
  (28, .goto (-26), 3),
  (31, .aload_n 0, 1),
  (32, .iload_n 1, 1),
  (33, .invokevirtual 84, 3),
  (36, .istore_n 3, 1),
  (37, .iload_n 3, 1),
  (38, .iload_n 2, 1),
  (39, .if_icmp .ge 33, 3),
  (42, .aload_n 0, 1),
  (43, .iload_n 3, 1),
  (44, .invokevirtual 99, 3),
  (47, .ifCond .eq 19, 3),
  (50, .aload_n 0, 1),
  (51, .getfield 26, 3),
  (54, .aload_n 0, 1),
  (55, .iload_n 3, 1),
  (56, .iconst 1, 1),
  (57, .invokevirtual 96, 3),
  (60, .aload_n 0, 1),
  (61, .iload_n 3, 1),
  (62, .invokevirtual 184, 3),
  (65, .iastore, 1),
  (66, .iinc 3 1, 3),
  (69, .goto (-32), 3),
  (72, .return_, 1)]
def mi_M_comesTo : mi_T := ("DataflowLabModel", ({ cls := "DataflowLabModel", name := "comesTo", desc := "(II)V" } : MethodName), prog_14_method_55_code, 4, (Option.none : Option FieldType), [], tb_M_comesTo)
theorem mo_M_comesTo : mi_ok mi_M_comesTo := by
  show ∀ q ∈ tb_M_comesTo, decode prog_14_method_55_code q.1 = .ok q.2
  decide +kernel
theorem mw_M_comesTo : mi_w mi_M_comesTo 2 := ⟨tb_m 2330 (by decide +kernel) (by decide +kernel), tb_m 161 (by decide +kernel) rfl, ⟨by decide +kernel, by decide +kernel, by decide +kernel⟩, by decide +kernel⟩
theorem mv_M_comesTo : mi_wV mi_M_comesTo := ⟨tb_m 2329 (by decide +kernel) rfl, tb_m 121 (by decide +kernel) rfl⟩
def tb_M_spreads : List (Nat × Instr × Nat) := [(0, .iconst 0, 1),
  (1, .istore_n 2, 1),
  (2, .aload_n 0, 1),
  (3, .iload_n 1, 1),
  (4, .aload_n 0, 1),
  (5, .iload_n 1, 1),
  (6, .invokevirtual 87, 3),
  (9, .invokevirtual 187, 3),
  (12, .iconst 0, 1),
  (13, .istore_n 3, 1),
  (14, .iload_n 3, 1),
  (15, .aload_n 0, 1),
  (16, .iload_n 1, 1),
  (17, .invokevirtual 90, 3),
  (20, .if_icmp .ge 87, 3),
  (23, .iconst 0, 1),
  (24, .istore 4, 2),
  (26, .iload 4, 2),
  (28, .bipush 8, 2),
  (30, .if_icmp .ge 71, 3),
  (33, .bipush 8, 2),
  (35, .aload_n 0, 1),
  (36, .iload_n 1, 1),
  (37, .iload_n 3, 1),
  (38, .invokevirtual 93, 3),
  (41, .imul, 1),
  (42, .iload 4, 2),
  (44, .iadd, 1),
  (45, .istore 5, 2),
  (47, .aload_n 0, 1),
  (48, .getfield 23, 3),
  (51, .iload 5, 2),
  (53, .iaload, 1),
  (54, .aload_n 0, 1),
  (55, .getfield 26, 3),
  (58, .iload 4, 2),
  (60, .iaload, 1),
  (61, .invokestatic 190, 3),
  (64, .istore 6, 2),
  (66, .iload_n 2, 1),
  (67, .iload 6, 2),
  (69, .aload_n 0, 1),
  (70, .getfield 23, 3),
  (73, .iload 5, 2),
  (75, .iaload, 1),
  (76, .if_icmp .eq 7, 3),
  (79, .iconst 1, 1),
  (80, .goto 4, 3),
  (83, .iconst 0, 1),
  (84, .ior, 1),
  (85, .istore_n 2, 1),
  (86, .aload_n 0, 1),
  (87, .getfield 23, 3),
  (90, .iload 5, 2),
  (92, .iload 6, 2),
  (94, .iastore, 1),
  (95, .iinc 4 1, 3),
  (98, .goto (-72), 3),
  (101, .iinc 3 1, 3),
  (104, .goto (-90), 3),
  (107, .iload_n 2, 1),
  (108, .ireturn, 1)]
def mi_M_spreads : mi_T := ("DataflowLabModel", ({ cls := "DataflowLabModel", name := "spreads", desc := "(I)Z" } : MethodName), prog_14_method_56_code, 7, (Option.some FieldType.boolean), [], tb_M_spreads)
theorem mo_M_spreads : mi_ok mi_M_spreads := by
  show ∀ q ∈ tb_M_spreads, decode prog_14_method_56_code q.1 = .ok q.2
  decide +kernel
theorem mw_M_spreads : mi_w mi_M_spreads 1 := ⟨tb_m 2326 (by decide +kernel) (by decide +kernel), tb_m 161 (by decide +kernel) rfl, ⟨by decide +kernel, by decide +kernel, by decide +kernel⟩, by decide +kernel⟩
theorem mv_M_spreads : mi_wV mi_M_spreads := ⟨tb_m 2325 (by decide +kernel) rfl, tb_m 120 (by decide +kernel) rfl⟩
def tb_M_findsConstants : List (Nat × Instr × Nat) := [(0, .iconst 0, 1),
  (1, .istore_n 1, 1),
  (2, .iload_n 1, 1),
  (3, .aload_n 0, 1),
  (4, .getfield 23, 3),
  (7, .arraylength, 1),
  (8, .if_icmp .ge 27, 3),
  (11, .aload_n 0, 1),
  (12, .getfield 23, 3),
  (15, .iload_n 1, 1),
  (16, .iload_n 1, 1),
  (17, .bipush 8, 2),
  (19, .if_icmp .ge 7, 3),
  (22, .iconst 0, 1),
  (23, .goto 5, 3),
  (26, .bipush (-2), 2),
  (28, .iastore, 1),
  (29, .iinc 1 1, 3),
  (32, .goto (-30), 3),
  (35, .iconst 1, 1),
  (36, .istore_n 1, 1),
  (37, .iload_n 1, 1),
  (38, .ifCond .eq 42, 3),
  (41, .iconst 0, 1),
  (42, .istore_n 1, 1),
  (43, .iconst 0, 1),
  (44, .istore_n 2, 1),
  (45, .iload_n 2, 1),
  (46, .aload_n 0, 1),
  (47, .iconst 0, 1),
  (48, .invokevirtual 61, 3),
  (51, .if_icmp .ge 26, 3),
  (54, .aload_n 0, 1),
  (55, .iload_n 2, 1),
  (56, .iconst (-1), 1),
  (57, .invokevirtual 155, 3),
  (60, .ifCond .eq 11, 3),
  (63, .iload_n 1, 1),
  (64, .aload_n 0, 1),
  (65, .iload_n 2, 1),
  (66, .invokevirtual 193, 3),
  (69, .ior, 1),
  (70, .istore_n 1, 1),
  (71, .iinc 2 1, 3),
  (74, .goto (-29), 3),
  (77, .goto (-40), 3),
  (80, .return_, 1)]
def mi_M_findsConstants : mi_T := ("DataflowLabModel", ({ cls := "DataflowLabModel", name := "findsConstants", desc := "()V" } : MethodName), prog_14_method_57_code, 3, (Option.none : Option FieldType), [], tb_M_findsConstants)
theorem mo_M_findsConstants : mi_ok mi_M_findsConstants := by
  show ∀ q ∈ tb_M_findsConstants, decode prog_14_method_57_code q.1 = .ok q.2
  decide +kernel
theorem mw_M_findsConstants : mi_w mi_M_findsConstants 0 := ⟨tb_m 2322 (by decide +kernel) (by decide +kernel), tb_m 161 (by decide +kernel) rfl, ⟨by decide +kernel, by decide +kernel, by decide +kernel⟩, by decide +kernel⟩
theorem mv_M_findsConstants : mi_wV mi_M_findsConstants := ⟨tb_m 2321 (by decide +kernel) rfl, tb_m 119 (by decide +kernel) rfl⟩
def tb_M_constantAtPlace : List (Nat × Instr × Nat) := [(0, .aload_n 0, 1),
  (1, .iload_n 1, 1),
  (2, .iconst (-1), 1),
  (3, .invokevirtual 155, 3),
  (6, .ifCond .ne 5, 3),
  (9, .iconst (-1), 1),
  (10, .ireturn, 1),
  (11, .aload_n 0, 1),
  (12, .invokevirtual 196, 3),
  (15, .aload_n 0, 1),
  (16, .iload_n 1, 1),
  (17, .iload_n 2, 1),
  (18, .invokevirtual 187, 3),
  (21, .iconst (-1), 1),
  (22, .aload_n 0, 1),
  (23, .getfield 26, 3),
  (26, .iload_n 3, 1),
  (27, .iaload, 1),
  (28, .invokestatic 199, 3),
  (31, .ireturn, 1)]
def mi_M_constantAtPlace : mi_T := ("DataflowLabModel", ({ cls := "DataflowLabModel", name := "constantAtPlace", desc := "(III)I" } : MethodName), prog_14_method_58_code, 4, (Option.some FieldType.int), [], tb_M_constantAtPlace)
theorem mo_M_constantAtPlace : mi_ok mi_M_constantAtPlace := by
  show ∀ q ∈ tb_M_constantAtPlace, decode prog_14_method_58_code q.1 = .ok q.2
  decide +kernel
theorem mw_M_constantAtPlace : mi_w mi_M_constantAtPlace 3 := ⟨tb_m 2318 (by decide +kernel) (by decide +kernel), tb_m 161 (by decide +kernel) rfl, ⟨by decide +kernel, by decide +kernel, by decide +kernel⟩, by decide +kernel⟩
theorem mv_M_constantAtPlace : mi_wV mi_M_constantAtPlace := ⟨tb_m 2317 (by decide +kernel) rfl, tb_m 118 (by decide +kernel) rfl⟩
def tb_M_begins : List (Nat × Instr × Nat) := [(0, .iconst 0, 1),
  (1, .istore_n 1, 1),
  (2, .iload_n 1, 1),
  (3, .bipush 8, 2),
  (5, .if_icmp .ge 16, 3),
  (8, .aload_n 0, 1),
  (9, .getfield 29, 3),
  (12, .iload_n 1, 1),
  (13, .iconst 0, 1),
  (14, .iastore, 1),
  (15, .iinc 1 1, 3),
  (18, .goto (-16), 3),
  (21, .aload_n 0, 1),
  (22, .iconst 0, 1),
  (23, .putfield 204, 3),
  (26, .aload_n 0, 1),
  (27, .aload_n 0, 1),
  (28, .iconst 0, 1),
  (29, .invokevirtual 84, 3),
  (32, .putfield 207, 3),
  (35, .aload_n 0, 1),
  (36, .iconst (-1), 1),
  (37, .putfield 210, 3),
  (40, .aload_n 0, 1),
  (41, .iconst 0, 1),
  (42, .putfield 213, 3),
  (45, .return_, 1)]
def mi_M_begins : mi_T := ("DataflowLabModel", ({ cls := "DataflowLabModel", name := "begins", desc := "()V" } : MethodName), prog_14_method_59_code, 2, (Option.none : Option FieldType), [], tb_M_begins)
theorem mo_M_begins : mi_ok mi_M_begins := by
  show ∀ q ∈ tb_M_begins, decode prog_14_method_59_code q.1 = .ok q.2
  decide +kernel
theorem mw_M_begins : mi_w mi_M_begins 0 := ⟨tb_m 2369 (by decide +kernel) (by decide +kernel), tb_m 161 (by decide +kernel) rfl, ⟨by decide +kernel, by decide +kernel, by decide +kernel⟩, by decide +kernel⟩
theorem mv_M_begins : mi_wV mi_M_begins := ⟨tb_m 2368 (by decide +kernel) rfl, tb_m 127 (by decide +kernel) rfl⟩
def tb_M_enters : List (Nat × Instr × Nat) := [(0, .aload_n 0, 1),
  (1, .iload_n 1, 1),
  (2, .putfield 204, 3),
  (5, .aload_n 0, 1),
  (6, .aload_n 0, 1),
  (7, .iload_n 1, 1),
  (8, .invokevirtual 84, 3),
  (11, .putfield 207, 3),
  (14, .return_, 1)]
def mi_M_enters : mi_T := ("DataflowLabModel", ({ cls := "DataflowLabModel", name := "enters", desc := "(I)V" } : MethodName), prog_14_method_60_code, 2, (Option.none : Option FieldType), [], tb_M_enters)
theorem mo_M_enters : mi_ok mi_M_enters := by
  show ∀ q ∈ tb_M_enters, decode prog_14_method_60_code q.1 = .ok q.2
  decide +kernel
theorem mw_M_enters : mi_w mi_M_enters 1 := ⟨tb_m 2377 (by decide +kernel) (by decide +kernel), tb_m 161 (by decide +kernel) rfl, ⟨by decide +kernel, by decide +kernel, by decide +kernel⟩, by decide +kernel⟩
theorem mv_M_enters : mi_wV mi_M_enters := ⟨tb_m 2376 (by decide +kernel) rfl, tb_m 129 (by decide +kernel) rfl⟩
def tb_M_steps : List (Nat × Instr × Nat) := [(0, .aload_n 0, 1),
  (1, .getfield 207, 3),
  (4, .aload_n 0, 1),
  (5, .aload_n 0, 1),
  (6, .getfield 204, 3),
  (9, .invokevirtual 87, 3),
  (12, .if_icmp .ne 87, 3),
  (15, .aload_n 0, 1),
  (16, .aload_n 0, 1),
  (17, .getfield 204, 3),
  (20, .iconst 1, 1),
  (21, .invokevirtual 80, 3),
  (24, .istore_n 1, 1),
  (25, .aload_n 0, 1),
  (26, .iload_n 1, 1),
  (27, .ifCond .ne 7, 3),
  (30, .iconst 1, 1),
  (31, .goto 4, 3),
  (34, .iconst 0, 1),
  (35, .putfield 213, 3),
  (38, .iload_n 1, 1),
  (39, .iconst 1, 1),
  (40, .if_icmp .ne 19, 3),
  (43, .aload_n 0, 1),
  (44, .aload_n 0, 1),
  (45, .aload_n 0, 1),
  (46, .getfield 204, 3),
  (49, .iconst 3, 1),
  (50, .invokevirtual 80, 3),
  (53, .invokevirtual 217, 3),
  (56, .goto 42, 3),
  (59, .iload_n 1, 1),
  (60, .iconst 2, 1),
  (61, .if_icmp .ne 37, 3),
  (64, .aload_n 0, 1),
  (65, .aload_n 0, 1),
  (66, .aload_n 0, 1),
  (67, .getfield 204, 3),
  (70, .aload_n 0, 1),
  (71, .getfield 29, 3),
  (74, .aload_n 0, 1),
  (75, .aload_n 0, 1),
  (76, .getfield 204, 3),
  (79, .iconst 2, 1),
  (80, .invokevirtual 80, 3),
  (83, .iaload, 1),
  (84, .ifCond .eq 7, 3),
  (87, .iconst 0, 1),
  (88, .goto 4, 3),
  (91, .iconst 1, 1),
  (92, .invokevirtual 93, 3),
  (95, .invokevirtual 217, 3),
  (98, .return_, 1),
  (99, .aload_n 0, 1),
  (100, .getfield 207, 3),
  (103, .istore_n 1, 1),
  (104, .aload_n 0, 1),
  (105, .iload_n 1, 1),
  (106, .iconst 0, 1),
  (107, .invokevirtual 96, 3),
  (110, .iconst 3, 1),
  (111, .if_icmp .ne 21, 3),
  (114, .aload_n 0, 1),
  (115, .aload_n 0, 1),
  (116, .getfield 29, 3),
  (119, .aload_n 0, 1),
  (120, .iload_n 1, 1),
  (121, .iconst 2, 1),
  (122, .invokevirtual 96, 3),
  (125, .iaload, 1),
  (126, .putfield 210, 3),
  (129, .goto 110, 3),
  (132, .aload_n 0, 1),
  (133, .iload_n 1, 1),
  (134, .iconst 0, 1),
  (135, .invokevirtual 96, 3),
  (138, .ifCond .ne 23, 3),
  (141, .aload_n 0, 1),
  (142, .getfield 29, 3),
  (145, .aload_n 0, 1),
  (146, .iload_n 1, 1),
  (147, .iconst 1, 1),
  (148, .invokevirtual 96, 3),
  (151, .aload_n 0, 1),
  (152, .iload_n 1, 1),
  (153, .iconst 2, 1),
  (154, .invokevirtual 96, 3),
  (157, .iastore, 1),
  (158, .goto 81, 3),
  (161, .aload_n 0, 1),
  (162, .iload_n 1, 1),
  (163, .iconst 0, 1),
  (164, .invokevirtual 96, 3),
  (167, .iconst 1, 1),
  (168, .if_icmp .ne 28, 3),
  (171, .aload_n 0, 1),
  (172, .getfield 29, 3),
  (175, .aload_n 0, 1),
  (176, .iload_n 1, 1),
  (177, .iconst 1, 1),
  (178, .invokevirtual 96, 3),
  (181, .aload_n 0, 1),
  (182, .getfield 29, 3),
  (185, .aload_n 0, 1),
  (186, .iload_n 1, 1),
  (187, .iconst 2, 1),
  (188, .invokevirtual 96, 3),
  (191, .iaload, 1),
  (192, .iastore, 1),
  (193, .goto 46, 3),
  (196, .aload_n 0, 1),
  (197, .getfield 29, 3),
  (200, .aload_n 0, 1),
  (201, .iload_n 1, 1),
  (202, .iconst 1, 1),
  (203, .invokevirtual 96, 3),
  (206, .aload_n 0, 1),
  (207, .aload_n 0, 1),
  (208, .getfield 29, 3),
  (211, .aload_n 0, 1),
  (212, .iload_n 1, 1),
  (213, .iconst 2, 1),
  (214, .invokevirtual 96, 3),
  (217, .iaload, 1),
  (218, .aload_n 0, 1),
  (219, .iload_n 1, 1),
  (220, .iconst 3, 1),
  (221, .invokevirtual 96, 3),
  (224, .aload_n 0, 1),
  (225, .getfield 29, 3),
  (228, .aload_n 0, 1),
  (229, .iload_n 1, 1),
  (230, .iconst 4, 1),
  (231, .invokevirtual 96, 3),
  (234, .iaload, 1),
  (235, .invokevirtual 181, 3),
  (238, .iastore, 1),
  (239, .aload_n 0, 1),
  (240, .dup, 1),
  (241, .getfield 207, 3),
  (244, .iconst 1, 1),
  (245, .iadd, 1),
  (246, .putfield 207, 3),
  (249, .return_, 1)]
def mi_M_steps : mi_T := ("DataflowLabModel", ({ cls := "DataflowLabModel", name := "steps", desc := "()V" } : MethodName), prog_14_method_61_code, 2, (Option.none : Option FieldType), [], tb_M_steps)
theorem mo_M_steps : mi_ok mi_M_steps := by
  show ∀ q ∈ tb_M_steps, decode prog_14_method_61_code q.1 = .ok q.2
  decide +kernel
theorem mw_M_steps : mi_w mi_M_steps 0 := ⟨tb_m 2373 (by decide +kernel) (by decide +kernel), tb_m 161 (by decide +kernel) rfl, ⟨by decide +kernel, by decide +kernel, by decide +kernel⟩, by decide +kernel⟩
theorem mv_M_steps : mi_wV mi_M_steps := ⟨tb_m 2372 (by decide +kernel) rfl, tb_m 128 (by decide +kernel) rfl⟩
def tb_M_runs : List (Nat × Instr × Nat) := [(0, .aload_n 0, 1),
  (1, .invokevirtual 220, 3),
  (4, .iconst 0, 1),
  (5, .istore_n 2, 1),
  (6, .iload_n 2, 1),
  (7, .iload_n 1, 1),
  (8, .if_icmp .ge 20, 3),
  (11, .aload_n 0, 1),
  (12, .getfield 213, 3),
  (15, .ifCond .ne 13, 3),
  (18, .aload_n 0, 1),
  (19, .invokevirtual 223, 3),
  (22, .iinc 2 1, 3),
  (25, .goto (-19), 3),
  (28, .iload_n 2, 1),
  (29, .ireturn, 1)]
def mi_M_runs : mi_T := ("DataflowLabModel", ({ cls := "DataflowLabModel", name := "runs", desc := "(I)I" } : MethodName), prog_14_method_62_code, 3, (Option.some FieldType.int), [], tb_M_runs)
theorem mo_M_runs : mi_ok mi_M_runs := by
  show ∀ q ∈ tb_M_runs, decode prog_14_method_62_code q.1 = .ok q.2
  decide +kernel
theorem mw_M_runs : mi_w mi_M_runs 1 := ⟨tb_m 2365 (by decide +kernel) (by decide +kernel), tb_m 161 (by decide +kernel) rfl, ⟨by decide +kernel, by decide +kernel, by decide +kernel⟩, by decide +kernel⟩
theorem mv_M_runs : mi_wV mi_M_runs := ⟨tb_m 2364 (by decide +kernel) rfl, tb_m 126 (by decide +kernel) rfl⟩
def tb_M_appendText : List (Nat × Instr × Nat) := [(0, .aload_n 0, 1),
  (1, .iconst 0, 1),
  (2, .putfield 55, 3),
  (5, .aload_n 0, 1),
  (6, .getfield 226, 3),
  (9, .iconst 4, 1),
  (10, .iadd, 1),
  (11, .sipush 700, 3),
  (14, .if_icmp .le 10, 3),
  (17, .aload_n 0, 1),
  (18, .iconst 1, 1),
  (19, .putfield 55, 3),
  (22, .iconst 0, 1),
  (23, .ireturn, 1),
  (24, .bipush 24, 2),
  (26, .istore_n 2, 1),
  (27, .iload_n 2, 1),
  (28, .ifCond .lt 35, 3),
  (31, .aload_n 0, 1),
  (32, .getfield 32, 3),
  (35, .aload_n 0, 1),
  (36, .getfield 226, 3),
  (39, .iload_n 1, 1),
  (40, .iload_n 2, 1),
  (41, .ishr, 1),
  (42, .sipush 255, 3),
  (45, .iand, 1),
  (46, .iastore, 1),
  (47, .aload_n 0, 1),
  (48, .dup, 1),
  (49, .getfield 226, 3),
  (52, .iconst 1, 1),
  (53, .iadd, 1),
  (54, .putfield 226, 3),
  (57, .iinc 2 (-8), 3),
  (60, .goto (-33), 3),
  (63, .aload_n 0, 1),
  (64, .getfield 226, 3),
  (67, .ireturn, 1)]
def mi_M_appendText : mi_T := ("DataflowLabModel", ({ cls := "DataflowLabModel", name := "appendText", desc := "(I)I" } : MethodName), prog_14_method_63_code, 3, (Option.some FieldType.int), [], tb_M_appendText)
theorem mo_M_appendText : mi_ok mi_M_appendText := by
  show ∀ q ∈ tb_M_appendText, decode prog_14_method_63_code q.1 = .ok q.2
  decide +kernel
theorem mw_M_appendText : mi_w mi_M_appendText 1 := ⟨tb_m 1917 (by decide +kernel) (by decide +kernel), tb_m 161 (by decide +kernel) rfl, ⟨by decide +kernel, by decide +kernel, by decide +kernel⟩, by decide +kernel⟩
theorem mv_M_appendText : mi_wV mi_M_appendText := ⟨tb_m 1915 (by decide +kernel) rfl, tb_m 1916 (by decide +kernel) rfl⟩
def tb_M_truncateText : List (Nat × Instr × Nat) := [(0, .aload_n 0, 1),
  (1, .iconst 0, 1),
  (2, .putfield 55, 3),
  (5, .iload_n 1, 1),
  (6, .ifCond .lt 11, 3),
  (9, .iload_n 1, 1),
  (10, .aload_n 0, 1),
  (11, .getfield 226, 3),
  (14, .if_icmp .le 10, 3),
  (17, .aload_n 0, 1),
  (18, .iconst 1, 1),
  (19, .putfield 55, 3),
  (22, .iconst 0, 1),
  (23, .ireturn, 1),
  (24, .aload_n 0, 1),
  (25, .iload_n 1, 1),
  (26, .putfield 226, 3),
  (29, .iload_n 1, 1),
  (30, .ireturn, 1)]
def mi_M_truncateText : mi_T := ("DataflowLabModel", ({ cls := "DataflowLabModel", name := "truncateText", desc := "(I)I" } : MethodName), prog_14_method_64_code, 2, (Option.some FieldType.int), [], tb_M_truncateText)
theorem mo_M_truncateText : mi_ok mi_M_truncateText := by
  show ∀ q ∈ tb_M_truncateText, decode prog_14_method_64_code q.1 = .ok q.2
  decide +kernel
theorem mw_M_truncateText : mi_w mi_M_truncateText 1 := ⟨tb_m 1921 (by decide +kernel) (by decide +kernel), tb_m 161 (by decide +kernel) rfl, ⟨by decide +kernel, by decide +kernel, by decide +kernel⟩, by decide +kernel⟩
theorem mv_M_truncateText : mi_wV mi_M_truncateText := ⟨tb_m 1919 (by decide +kernel) rfl, tb_m 1920 (by decide +kernel) rfl⟩
def tb_M_isByte : List (Nat × Instr × Nat) := [(0, .aload_n 0, 1),
  (1, .getfield 229, 3),
  (4, .aload_n 0, 1),
  (5, .getfield 226, 3),
  (8, .if_icmp .ge 24, 3),
  (11, .aload_n 0, 1),
  (12, .getfield 32, 3),
  (15, .aload_n 0, 1),
  (16, .getfield 229, 3),
  (19, .iaload, 1),
  (20, .iload_n 1, 1),
  (21, .iload_n 2, 1),
  (22, .invokestatic 124, 3),
  (25, .ifCond .eq 7, 3),
  (28, .iconst 1, 1),
  (29, .goto 4, 3),
  (32, .iconst 0, 1),
  (33, .ireturn, 1)]
def mi_M_isByte : mi_T := ("DataflowLabModel", ({ cls := "DataflowLabModel", name := "isByte", desc := "(II)Z" } : MethodName), prog_14_method_65_code, 3, (Option.some FieldType.boolean), [], tb_M_isByte)
theorem mo_M_isByte : mi_ok mi_M_isByte := by
  show ∀ q ∈ tb_M_isByte, decode prog_14_method_65_code q.1 = .ok q.2
  decide +kernel
theorem mw_M_isByte : mi_w mi_M_isByte 2 := ⟨tb_m 1933 (by decide +kernel) (by decide +kernel), tb_m 161 (by decide +kernel) rfl, ⟨by decide +kernel, by decide +kernel, by decide +kernel⟩, by decide +kernel⟩
theorem mv_M_isByte : mi_wV mi_M_isByte := ⟨tb_m 1932 (by decide +kernel) rfl, tb_m 61 (by decide +kernel) rfl⟩
def tb_M_next : List (Nat × Instr × Nat) := [(0, .aload_n 0, 1),
  (1, .bipush 32, 2),
  (3, .bipush 32, 2),
  (5, .invokevirtual 232, 3),
  (8, .ifCond .ne 14, 3),
  (11, .aload_n 0, 1),
  (12, .bipush 10, 2),
  (14, .bipush 10, 2),
  (16, .invokevirtual 232, 3),
  (19, .ifCond .eq 16, 3),
  (22, .aload_n 0, 1),
  (23, .dup, 1),
  (24, .getfield 229, 3),
  (27, .iconst 1, 1),
  (28, .iadd, 1),
  (29, .putfield 229, 3),
  (32, .goto (-32), 3),
  (35, .aload_n 0, 1),
  (36, .aload_n 0, 1),
  (37, .getfield 229, 3),
  (40, .putfield 235, 3),
  (43, .aload_n 0, 1),
  (44, .getfield 229, 3),
  (47, .aload_n 0, 1),
  (48, .getfield 226, 3),
  (51, .if_icmp .ne 11, 3),
  (54, .aload_n 0, 1),
  (55, .iconst 0, 1),
  (56, .putfield 238, 3),
  (59, .goto 164, 3),
  (62, .aload_n 0, 1),
  (63, .bipush 97, 2),
  (65, .bipush 122, 2),
  (67, .invokevirtual 232, 3),
  (70, .ifCond .eq 35, 3),
  (73, .aload_n 0, 1),
  (74, .bipush 97, 2),
  (76, .bipush 122, 2),
  (78, .invokevirtual 232, 3),
  (81, .ifCond .eq 16, 3),
  (84, .aload_n 0, 1),
  (85, .dup, 1),
  (86, .getfield 229, 3),
  (89, .iconst 1, 1),
  (90, .iadd, 1),
  (91, .putfield 229, 3),
  (94, .goto (-21), 3),
  (97, .aload_n 0, 1),
  (98, .iconst 1, 1),
  (99, .putfield 238, 3),
  (102, .goto 121, 3),
  (105, .aload_n 0, 1),
  (106, .bipush 48, 2),
  (108, .bipush 57, 2),
  (110, .invokevirtual 232, 3),
  (113, .ifCond .eq 80, 3),
  (116, .aload_n 0, 1),
  (117, .iconst 0, 1),
  (118, .putfield 241, 3),
  (121, .aload_n 0, 1),
  (122, .bipush 48, 2),
  (124, .bipush 57, 2),
  (126, .invokevirtual 232, 3),
  (129, .ifCond .eq 56, 3),
  (132, .aload_n 0, 1),
  (133, .aload_n 0, 1),
  (134, .getfield 241, 3),
  (137, .ldc 244, 2),
  (139, .if_icmp .le 10, 3),
  (142, .aload_n 0, 1),
  (143, .getfield 241, 3),
  (146, .goto 23, 3),
  (149, .bipush 10, 2),
  (151, .aload_n 0, 1),
  (152, .getfield 241, 3),
  (155, .imul, 1),
  (156, .aload_n 0, 1),
  (157, .getfield 32, 3),
  (160, .aload_n 0, 1),
  (161, .getfield 229, 3),
  (164, .iaload, 1),
  (165, .iadd, 1),
  (166, .bipush 48, 2),
  (168, .isub, 1),
  (169, .putfield 241, 3),
  (172, .aload_n 0, 1),
  (173, .dup, 1),
  (174, .getfield 229, 3),
  (177, .iconst 1, 1),
  (178, .iadd, 1),
  (179, .putfield 229, 3),
  (182, .goto (-61), 3),
  (185, .aload_n 0, 1),
  (186, .iconst 2, 1),
  (187, .putfield 238, 3),
  (190, .goto 33, 3),
  (193, .aload_n 0, 1),
  (194, .aload_n 0, 1),
  (195, .bipush 59, 2),
  (197, .bipush 59, 2),
  (199, .invokevirtual 232, 3),
  (202, .ifCond .eq 7, 3),
  (205, .iconst 3, 1),
  (206, .goto 4, 3),
  (209, .iconst 4, 1),
  (210, .putfield 238, 3),
  (213, .aload_n 0, 1),
  (214, .dup, 1),
  (215, .getfield 229, 3),
  (218, .iconst 1, 1),
  (219, .iadd, 1),
  (220, .putfield 229, 3),
  (223, .return_, 1)]
def mi_M_next : mi_T := ("DataflowLabModel", ({ cls := "DataflowLabModel", name := "next", desc := "()V" } : MethodName), prog_14_method_66_code, 1, (Option.none : Option FieldType), [], tb_M_next)
theorem mo_M_next : mi_ok mi_M_next := by
  show ∀ q ∈ tb_M_next, decode prog_14_method_66_code q.1 = .ok q.2
  decide +kernel
theorem mw_M_next : mi_w mi_M_next 0 := ⟨tb_m 1929 (by decide +kernel) (by decide +kernel), tb_m 161 (by decide +kernel) rfl, ⟨by decide +kernel, by decide +kernel, by decide +kernel⟩, by decide +kernel⟩
theorem mv_M_next : mi_wV mi_M_next := ⟨tb_m 1928 (by decide +kernel) rfl, tb_m 60 (by decide +kernel) rfl⟩
def tb_M_must : List (Nat × Instr × Nat) := [(0, .aload_n 0, 1),
  (1, .getfield 245, 3),
  (4, .ifCond .ne 20, 3),
  (7, .iload_n 1, 1),
  (8, .ifCond .ne 16, 3),
  (11, .aload_n 0, 1),
  (12, .iload_n 2, 1),
  (13, .putfield 245, 3),
  (16, .aload_n 0, 1),
  (17, .aload_n 0, 1),
  (18, .getfield 235, 3),
  (21, .putfield 35, 3),
  (24, .aload_n 0, 1),
  (25, .getfield 245, 3),
  (28, .ifCond .ne 7, 3),
  (31, .iconst 1, 1),
  (32, .goto 4, 3),
  (35, .iconst 0, 1),
  (36, .ireturn, 1)]
def mi_M_must : mi_T := ("DataflowLabModel", ({ cls := "DataflowLabModel", name := "must", desc := "(ZI)Z" } : MethodName), prog_14_method_67_code, 3, (Option.some FieldType.boolean), [], tb_M_must)
theorem mo_M_must : mi_ok mi_M_must := by
  show ∀ q ∈ tb_M_must, decode prog_14_method_67_code q.1 = .ok q.2
  decide +kernel
theorem mw_M_must : mi_w mi_M_must 2 := ⟨tb_m 1952 (by decide +kernel) (by decide +kernel), tb_m 161 (by decide +kernel) rfl, ⟨by decide +kernel, by decide +kernel, by decide +kernel⟩, by decide +kernel⟩
theorem mv_M_must : mi_wV mi_M_must := ⟨tb_m 1951 (by decide +kernel) rfl, tb_m 64 (by decide +kernel) rfl⟩
def tb_M_isWord : List (Nat × Instr × Nat) := [(0, .aload_n 0, 1),
  (1, .getfield 245, 3),
  (4, .ifCond .ne 27, 3),
  (7, .aload_n 0, 1),
  (8, .getfield 238, 3),
  (11, .iconst 1, 1),
  (12, .if_icmp .ne 19, 3),
  (15, .aload_n 0, 1),
  (16, .getfield 229, 3),
  (19, .aload_n 0, 1),
  (20, .getfield 235, 3),
  (23, .isub, 1),
  (24, .aload_n 1, 1),
  (25, .invokevirtual 248, 3),
  (28, .if_icmp .eq 5, 3),
  (31, .iconst 0, 1),
  (32, .ireturn, 1),
  (33, .iconst 0, 1),
  (34, .istore_n 2, 1),
  (35, .iload_n 2, 1),
  (36, .aload_n 1, 1),
  (37, .invokevirtual 248, 3),
  (40, .if_icmp .ge 30, 3),
  (43, .aload_n 0, 1),
  (44, .getfield 32, 3),
  (47, .aload_n 0, 1),
  (48, .getfield 235, 3),
  (51, .iload_n 2, 1),
  (52, .iadd, 1),
  (53, .iaload, 1),
  (54, .aload_n 1, 1),
  (55, .iload_n 2, 1),
  (56, .invokevirtual 253, 3),
  (59, .if_icmp .eq 5, 3),
  (62, .iconst 0, 1),
  (63, .ireturn, 1),
  (64, .iinc 2 1, 3),
  (67, .goto (-32), 3),
  (70, .iconst 1, 1),
  (71, .ireturn, 1)]
def mi_M_isWord : mi_T := ("DataflowLabModel", ({ cls := "DataflowLabModel", name := "isWord", desc := "(Ljava/lang/String;)Z" } : MethodName), prog_14_method_68_code, 3, (Option.some FieldType.boolean), [], tb_M_isWord)
theorem mo_M_isWord : mi_ok mi_M_isWord := by
  show ∀ q ∈ tb_M_isWord, decode prog_14_method_68_code q.1 = .ok q.2
  decide +kernel
theorem mw_M_isWord : mi_w mi_M_isWord 1 := ⟨tb_m 1946 (by decide +kernel) (by decide +kernel), tb_m 161 (by decide +kernel) rfl, ⟨by decide +kernel, by decide +kernel, by decide +kernel⟩, by decide +kernel⟩
theorem mv_M_isWord : mi_wV mi_M_isWord := ⟨tb_m 1945 (by decide +kernel) rfl, tb_m 63 (by decide +kernel) rfl⟩
def tb_M_goesOn : List (Nat × Instr × Nat) := [(0, .aload_n 0, 1),
  (1, .getfield 245, 3),
  (4, .ifCond .ne 7, 3),
  (7, .aload_n 0, 1),
  (8, .invokevirtual 257, 3),
  (11, .return_, 1)]
def mi_M_goesOn : mi_T := ("DataflowLabModel", ({ cls := "DataflowLabModel", name := "goesOn", desc := "()V" } : MethodName), prog_14_method_69_code, 1, (Option.none : Option FieldType), [], tb_M_goesOn)
theorem mo_M_goesOn : mi_ok mi_M_goesOn := by
  show ∀ q ∈ tb_M_goesOn, decode prog_14_method_69_code q.1 = .ok q.2
  decide +kernel
theorem mw_M_goesOn : mi_w mi_M_goesOn 0 := ⟨tb_m 1956 (by decide +kernel) (by decide +kernel), tb_m 161 (by decide +kernel) rfl, ⟨by decide +kernel, by decide +kernel, by decide +kernel⟩, by decide +kernel⟩
theorem mv_M_goesOn : mi_wV mi_M_goesOn := ⟨tb_m 1955 (by decide +kernel) rfl, tb_m 65 (by decide +kernel) rfl⟩
def tb_M_endsLine : List (Nat × Instr × Nat) := [(0, .aload_n 0, 1),
  (1, .aload_n 0, 1),
  (2, .getfield 238, 3),
  (5, .iconst 3, 1),
  (6, .if_icmp .ne 7, 3),
  (9, .iconst 1, 1),
  (10, .goto 4, 3),
  (13, .iconst 0, 1),
  (14, .iconst 1, 1),
  (15, .invokevirtual 260, 3),
  (18, .pop, 1),
  (19, .aload_n 0, 1),
  (20, .invokevirtual 264, 3),
  (23, .return_, 1)]
def mi_M_endsLine : mi_T := ("DataflowLabModel", ({ cls := "DataflowLabModel", name := "endsLine", desc := "()V" } : MethodName), prog_14_method_70_code, 1, (Option.none : Option FieldType), [], tb_M_endsLine)
theorem mo_M_endsLine : mi_ok mi_M_endsLine := by
  show ∀ q ∈ tb_M_endsLine, decode prog_14_method_70_code q.1 = .ok q.2
  decide +kernel
theorem mw_M_endsLine : mi_w mi_M_endsLine 0 := ⟨tb_m 1960 (by decide +kernel) (by decide +kernel), tb_m 161 (by decide +kernel) rfl, ⟨by decide +kernel, by decide +kernel, by decide +kernel⟩, by decide +kernel⟩
theorem mv_M_endsLine : mi_wV mi_M_endsLine := ⟨tb_m 1959 (by decide +kernel) rfl, tb_m 66 (by decide +kernel) rfl⟩
def tb_M_reads : List (Nat × Instr × Nat) := [(0, .aload_n 0, 1),
  (1, .aload_n 0, 1),
  (2, .getfield 238, 3),
  (5, .iconst 2, 1),
  (6, .if_icmp .ne 7, 3),
  (9, .iconst 1, 1),
  (10, .goto 4, 3),
  (13, .iconst 0, 1),
  (14, .iconst 1, 1),
  (15, .invokevirtual 260, 3),
  (18, .ifCond .eq 22, 3),
  (21, .aload_n 0, 1),
  (22, .aload_n 0, 1),
  (23, .getfield 241, 3),
  (26, .iload_n 1, 1),
  (27, .if_icmp .gt 7, 3),
  (30, .iconst 1, 1),
  (31, .goto 4, 3),
  (34, .iconst 0, 1),
  (35, .iconst 2, 1),
  (36, .invokevirtual 260, 3),
  (39, .pop, 1),
  (40, .aload_n 0, 1),
  (41, .getfield 245, 3),
  (44, .ifCond .ne 10, 3),
  (47, .aload_n 0, 1),
  (48, .getfield 241, 3),
  (51, .goto 4, 3),
  (54, .iconst 0, 1),
  (55, .istore_n 2, 1),
  (56, .aload_n 0, 1),
  (57, .invokevirtual 264, 3),
  (60, .iload_n 2, 1),
  (61, .ireturn, 1)]
def mi_M_reads : mi_T := ("DataflowLabModel", ({ cls := "DataflowLabModel", name := "reads", desc := "(I)I" } : MethodName), prog_14_method_71_code, 3, (Option.some FieldType.int), [], tb_M_reads)
theorem mo_M_reads : mi_ok mi_M_reads := by
  show ∀ q ∈ tb_M_reads, decode prog_14_method_71_code q.1 = .ok q.2
  decide +kernel
theorem mw_M_reads : mi_w mi_M_reads 1 := ⟨tb_m 1980 (by decide +kernel) (by decide +kernel), tb_m 161 (by decide +kernel) rfl, ⟨by decide +kernel, by decide +kernel, by decide +kernel⟩, by decide +kernel⟩
theorem mv_M_reads : mi_wV mi_M_reads := ⟨tb_m 1979 (by decide +kernel) rfl, tb_m 70 (by decide +kernel) rfl⟩
def tb_M_readsVariable : List (Nat × Instr × Nat) := [(0, .aload_n 0, 1),
  (1, .aload_n 0, 1),
  (2, .getfield 238, 3),
  (5, .iconst 1, 1),
  (6, .if_icmp .ne 39, 3),
  (9, .aload_n 0, 1),
  (10, .getfield 229, 3),
  (13, .aload_n 0, 1),
  (14, .getfield 235, 3),
  (17, .isub, 1),
  (18, .iconst 1, 1),
  (19, .if_icmp .ne 26, 3),
  (22, .aload_n 0, 1),
  (23, .getfield 32, 3),
  (26, .aload_n 0, 1),
  (27, .getfield 235, 3),
  (30, .iaload, 1),
  (31, .bipush 97, 2),
  (33, .bipush 104, 2),
  (35, .invokestatic 124, 3),
  (38, .ifCond .eq 7, 3),
  (41, .iconst 1, 1),
  (42, .goto 4, 3),
  (45, .iconst 0, 1),
  (46, .iconst 1, 1),
  (47, .invokevirtual 260, 3),
  (50, .pop, 1),
  (51, .aload_n 0, 1),
  (52, .getfield 245, 3),
  (55, .ifCond .ne 18, 3),
  (58, .aload_n 0, 1),
  (59, .getfield 32, 3),
  (62, .aload_n 0, 1),
  (63, .getfield 235, 3),
  (66, .iaload, 1),
  (67, .bipush 97, 2),
  (69, .isub, 1),
  (70, .goto 4, 3),
  (73, .iconst 0, 1),
  (74, .istore_n 1, 1),
  (75, .aload_n 0, 1),
  (76, .invokevirtual 264, 3),
  (79, .iload_n 1, 1),
  (80, .ireturn, 1)]
def mi_M_readsVariable : mi_T := ("DataflowLabModel", ({ cls := "DataflowLabModel", name := "readsVariable", desc := "()I" } : MethodName), prog_14_method_72_code, 2, (Option.some FieldType.int), [], tb_M_readsVariable)
theorem mo_M_readsVariable : mi_ok mi_M_readsVariable := by
  show ∀ q ∈ tb_M_readsVariable, decode prog_14_method_72_code q.1 = .ok q.2
  decide +kernel
theorem mw_M_readsVariable : mi_w mi_M_readsVariable 0 := ⟨tb_m 1976 (by decide +kernel) (by decide +kernel), tb_m 161 (by decide +kernel) rfl, ⟨by decide +kernel, by decide +kernel, by decide +kernel⟩, by decide +kernel⟩
theorem mv_M_readsVariable : mi_wV mi_M_readsVariable := ⟨tb_m 1975 (by decide +kernel) rfl, tb_m 69 (by decide +kernel) rfl⟩
def tb_M_readsOperator : List (Nat × Instr × Nat) := [(0, .aload_n 0, 1),
  (1, .ldc_w 267, 3),
  (4, .invokevirtual 269, 3),
  (7, .ifCond .eq 7, 3),
  (10, .iconst 0, 1),
  (11, .goto 18, 3),
  (14, .aload_n 0, 1),
  (15, .ldc_w 273, 3),
  (18, .invokevirtual 269, 3),
  (21, .ifCond .eq 7, 3),
  (24, .iconst 1, 1),
  (25, .goto 4, 3),
  (28, .iconst 2, 1),
  (29, .istore_n 1, 1),
  (30, .aload_n 0, 1),
  (31, .iload_n 1, 1),
  (32, .iconst 2, 1),
  (33, .if_icmp .ne 13, 3),
  (36, .aload_n 0, 1),
  (37, .ldc_w 275, 3),
  (40, .invokevirtual 269, 3),
  (43, .ifCond .eq 7, 3),
  (46, .iconst 1, 1),
  (47, .goto 4, 3),
  (50, .iconst 0, 1),
  (51, .iconst 1, 1),
  (52, .invokevirtual 260, 3),
  (55, .pop, 1),
  (56, .aload_n 0, 1),
  (57, .invokevirtual 264, 3),
  (60, .iload_n 1, 1),
  (61, .ireturn, 1)]
def mi_M_readsOperator : mi_T := ("DataflowLabModel", ({ cls := "DataflowLabModel", name := "readsOperator", desc := "()I" } : MethodName), prog_14_method_73_code, 2, (Option.some FieldType.int), [], tb_M_readsOperator)
theorem mo_M_readsOperator : mi_ok mi_M_readsOperator := by
  show ∀ q ∈ tb_M_readsOperator, decode prog_14_method_73_code q.1 = .ok q.2
  decide +kernel
theorem mw_M_readsOperator : mi_w mi_M_readsOperator 0 := ⟨tb_m 1984 (by decide +kernel) (by decide +kernel), tb_m 161 (by decide +kernel) rfl, ⟨by decide +kernel, by decide +kernel, by decide +kernel⟩, by decide +kernel⟩
theorem mv_M_readsOperator : mi_wV mi_M_readsOperator := ⟨tb_m 1983 (by decide +kernel) rfl, tb_m 71 (by decide +kernel) rfl⟩
def tb_M_kindHere : List (Nat × Instr × Nat) := [(0, .aload_n 0, 1),
  (1, .ldc_w 277, 3),
  (4, .invokevirtual 269, 3),
  (7, .ifCond .eq 5, 3),
  (10, .iconst 0, 1),
  (11, .ireturn, 1),
  (12, .aload_n 0, 1),
  (13, .ldc_w 279, 3),
  (16, .invokevirtual 269, 3),
  (19, .ifCond .eq 5, 3),
  (22, .iconst 1, 1),
  (23, .ireturn, 1),
  (24, .aload_n 0, 1),
  (25, .ldc_w 281, 3),
  (28, .invokevirtual 269, 3),
  (31, .ifCond .eq 5, 3),
  (34, .iconst 2, 1),
  (35, .ireturn, 1),
  (36, .aload_n 0, 1),
  (37, .ldc_w 283, 3),
  (40, .invokevirtual 269, 3),
  (43, .ifCond .eq 7, 3),
  (46, .iconst 3, 1),
  (47, .goto 4, 3),
  (50, .iconst (-1), 1),
  (51, .ireturn, 1)]
def mi_M_kindHere : mi_T := ("DataflowLabModel", ({ cls := "DataflowLabModel", name := "kindHere", desc := "()I" } : MethodName), prog_14_method_74_code, 1, (Option.some FieldType.int), [], tb_M_kindHere)
theorem mo_M_kindHere : mi_ok mi_M_kindHere := by
  show ∀ q ∈ tb_M_kindHere, decode prog_14_method_74_code q.1 = .ok q.2
  decide +kernel
theorem mw_M_kindHere : mi_w mi_M_kindHere 0 := ⟨tb_m 1964 (by decide +kernel) (by decide +kernel), tb_m 161 (by decide +kernel) rfl, ⟨by decide +kernel, by decide +kernel, by decide +kernel⟩, by decide +kernel⟩
theorem mv_M_kindHere : mi_wV mi_M_kindHere := ⟨tb_m 1963 (by decide +kernel) rfl, tb_m 67 (by decide +kernel) rfl⟩
def tb_M_readsItem : List (Nat × Instr × Nat) := [(0, .aload_n 0, 1),
  (1, .aload_n 0, 1),
  (2, .iconst 1, 1),
  (3, .invokevirtual 61, 3),
  (6, .bipush 40, 2),
  (8, .if_icmp .ge 7, 3),
  (11, .iconst 1, 1),
  (12, .goto 4, 3),
  (15, .iconst 0, 1),
  (16, .iconst 3, 1),
  (17, .invokevirtual 260, 3),
  (20, .ifCond .ne 4, 3),
  (23, .return_, 1),
  (24, .aload_n 0, 1),
  (25, .invokevirtual 264, 3),
  (28, .iload_n 1, 1),
  (29, .iconst 3, 1),
  (30, .if_icmp .ne 7, 3),
  (33, .iconst 0, 1),
  (34, .goto 7, 3),
  (37, .aload_n 0, 1),
  (38, .invokevirtual 285, 3),
  (41, .istore_n 2, 1),
  (42, .iload_n 1, 1),
  (43, .ifCond .ne 13, 3),
  (46, .aload_n 0, 1),
  (47, .sipush 999, 3),
  (50, .invokevirtual 288, 3),
  (53, .goto 7, 3),
  (56, .aload_n 0, 1),
  (57, .invokevirtual 285, 3),
  (60, .istore_n 3, 1),
  (61, .iload_n 1, 1),
  (62, .iconst 2, 1),
  (63, .if_icmp .ne 10, 3),
  (66, .aload_n 0, 1),
  (67, .invokevirtual 291, 3),
  (70, .goto 4, 3),
  (73, .iconst 0, 1),
  (74, .istore 4, 2),
  (76, .iload_n 1, 1),
  (77, .iconst 2, 1),
  (78, .if_icmp .ne 10, 3),
  (81, .aload_n 0, 1),
  (82, .invokevirtual 285, 3),
  (85, .goto 4, 3),
  (88, .iconst 0, 1),
  (89, .istore 5, 2),
  (91, .aload_n 0, 1),
  (92, .invokevirtual 294, 3),
  (95, .aload_n 0, 1),
  (96, .getfield 245, 3),
  (99, .ifCond .ne 14, 3),
  (102, .aload_n 0, 1),
  (103, .iload_n 1, 1),
  (104, .iload_n 2, 1),
  (105, .iload_n 3, 1),
  (106, .iload 4, 2),
  (108, .iload 5, 2),
  (110, .invokevirtual 48, 3),
  (113, .return_, 1)]
def mi_M_readsItem : mi_T := ("DataflowLabModel", ({ cls := "DataflowLabModel", name := "readsItem", desc := "(I)V" } : MethodName), prog_14_method_75_code, 6, (Option.none : Option FieldType), [], tb_M_readsItem)
theorem mo_M_readsItem : mi_ok mi_M_readsItem := by
  show ∀ q ∈ tb_M_readsItem, decode prog_14_method_75_code q.1 = .ok q.2
  decide +kernel
theorem mw_M_readsItem : mi_w mi_M_readsItem 1 := ⟨tb_m 1972 (by decide +kernel) (by decide +kernel), tb_m 161 (by decide +kernel) rfl, ⟨by decide +kernel, by decide +kernel, by decide +kernel⟩, by decide +kernel⟩
theorem mv_M_readsItem : mi_wV mi_M_readsItem := ⟨tb_m 1971 (by decide +kernel) rfl, tb_m 68 (by decide +kernel) rfl⟩
def tb_M_readsWay : List (Nat × Instr × Nat) := [(0, .aload_n 0, 1),
  (1, .getfield 39, 3),
  (4, .iconst 2, 1),
  (5, .aload_n 0, 1),
  (6, .iconst 0, 1),
  (7, .invokevirtual 61, 3),
  (10, .iconst 1, 1),
  (11, .isub, 1),
  (12, .imul, 1),
  (13, .iload_n 1, 1),
  (14, .iadd, 1),
  (15, .aload_n 0, 1),
  (16, .getfield 235, 3),
  (19, .iastore, 1),
  (20, .aload_n 0, 1),
  (21, .bipush 11, 2),
  (23, .invokevirtual 288, 3),
  (26, .ireturn, 1)]
def mi_M_readsWay : mi_T := ("DataflowLabModel", ({ cls := "DataflowLabModel", name := "readsWay", desc := "(I)I" } : MethodName), prog_14_method_76_code, 2, (Option.some FieldType.int), [], tb_M_readsWay)
theorem mo_M_readsWay : mi_ok mi_M_readsWay := by
  show ∀ q ∈ tb_M_readsWay, decode prog_14_method_76_code q.1 = .ok q.2
  decide +kernel
theorem mw_M_readsWay : mi_w mi_M_readsWay 1 := ⟨tb_m 1998 (by decide +kernel) (by decide +kernel), tb_m 161 (by decide +kernel) rfl, ⟨by decide +kernel, by decide +kernel, by decide +kernel⟩, by decide +kernel⟩
theorem mv_M_readsWay : mi_wV mi_M_readsWay := ⟨tb_m 1997 (by decide +kernel) rfl, tb_m 73 (by decide +kernel) rfl⟩
def tb_M_readsExit : List (Nat × Instr × Nat) := [(0, .aload_n 0, 1),
  (1, .iconst 0, 1),
  (2, .invokevirtual 61, 3),
  (5, .iconst 1, 1),
  (6, .isub, 1),
  (7, .istore_n 1, 1),
  (8, .aload_n 0, 1),
  (9, .ldc_w 297, 3),
  (12, .invokevirtual 269, 3),
  (15, .ifCond .eq 7, 3),
  (18, .iconst 0, 1),
  (19, .goto 18, 3),
  (22, .aload_n 0, 1),
  (23, .ldc_w 299, 3),
  (26, .invokevirtual 269, 3),
  (29, .ifCond .eq 7, 3),
  (32, .iconst 1, 1),
  (33, .goto 4, 3),
  (36, .iconst 2, 1),
  (37, .istore_n 2, 1),
  (38, .aload_n 0, 1),
  (39, .iload_n 2, 1),
  (40, .iconst 2, 1),
  (41, .if_icmp .ne 13, 3),
  (44, .aload_n 0, 1),
  (45, .ldc_w 301, 3),
  (48, .invokevirtual 269, 3),
  (51, .ifCond .eq 7, 3),
  (54, .iconst 1, 1),
  (55, .goto 4, 3),
  (58, .iconst 0, 1),
  (59, .iconst 1, 1),
  (60, .invokevirtual 260, 3),
  (63, .ifCond .ne 4, 3),
  (66, .return_, 1),
  (67, .aload_n 0, 1),
  (68, .invokevirtual 264, 3),
  (71, .iload_n 2, 1),
  (72, .iconst 2, 1),
  (73, .if_icmp .ne 10, 3),
  (76, .aload_n 0, 1),
  (77, .invokevirtual 285, 3),
  (80, .goto 4, 3),
  (83, .iconst 0, 1),
  (84, .istore_n 3, 1),
  (85, .iload_n 2, 1),
  (86, .ifCond .ne 7, 3),
  (89, .iconst 0, 1),
  (90, .goto 8, 3),
  (93, .aload_n 0, 1),
  (94, .iconst 0, 1),
  (95, .invokevirtual 303, 3),
  (98, .istore 4, 2),
  (100, .iload_n 2, 1),
  (101, .iconst 2, 1),
  (102, .if_icmp .ne 11, 3),
  (105, .aload_n 0, 1),
  (106, .iconst 1, 1),
  (107, .invokevirtual 303, 3),
  (110, .goto 4, 3),
  (113, .iconst 0, 1),
  (114, .istore 5, 2),
  (116, .aload_n 0, 1),
  (117, .invokevirtual 294, 3),
  (120, .aload_n 0, 1),
  (121, .getfield 245, 3),
  (124, .ifCond .ne 14, 3),
  (127, .aload_n 0, 1),
  (128, .iload_n 1, 1),
  (129, .iload_n 2, 1),
  (130, .iload_n 3, 1),
  (131, .iload 4, 2),
  (133, .iload 5, 2),
  (135, .invokevirtual 52, 3),
  (138, .return_, 1)]
def mi_M_readsExit : mi_T := ("DataflowLabModel", ({ cls := "DataflowLabModel", name := "readsExit", desc := "()V" } : MethodName), prog_14_method_77_code, 6, (Option.none : Option FieldType), [], tb_M_readsExit)
theorem mo_M_readsExit : mi_ok mi_M_readsExit := by
  show ∀ q ∈ tb_M_readsExit, decode prog_14_method_77_code q.1 = .ok q.2
  decide +kernel
theorem mw_M_readsExit : mi_w mi_M_readsExit 0 := ⟨tb_m 1991 (by decide +kernel) (by decide +kernel), tb_m 161 (by decide +kernel) rfl, ⟨by decide +kernel, by decide +kernel, by decide +kernel⟩, by decide +kernel⟩
theorem mv_M_readsExit : mi_wV mi_M_readsExit := ⟨tb_m 1990 (by decide +kernel) rfl, tb_m 72 (by decide +kernel) rfl⟩
def tb_M_readsBlock : List (Nat × Instr × Nat) := [(0, .aload_n 0, 1),
  (1, .aload_n 0, 1),
  (2, .ldc_w 306, 3),
  (5, .invokevirtual 269, 3),
  (8, .iconst 1, 1),
  (9, .invokevirtual 260, 3),
  (12, .ifCond .eq 26, 3),
  (15, .aload_n 0, 1),
  (16, .aload_n 0, 1),
  (17, .iconst 0, 1),
  (18, .invokevirtual 61, 3),
  (21, .bipush 12, 2),
  (23, .if_icmp .ge 7, 3),
  (26, .iconst 1, 1),
  (27, .goto 4, 3),
  (30, .iconst 0, 1),
  (31, .iconst 3, 1),
  (32, .invokevirtual 260, 3),
  (35, .ifCond .ne 4, 3),
  (38, .return_, 1),
  (39, .aload_n 0, 1),
  (40, .invokevirtual 264, 3),
  (43, .aload_n 0, 1),
  (44, .invokevirtual 294, 3),
  (47, .aload_n 0, 1),
  (48, .getfield 245, 3),
  (51, .ifCond .eq 4, 3),
  (54, .return_, 1),
  (55, .aload_n 0, 1),
  (56, .invokevirtual 45, 3),
  (59, .aload_n 0, 1),
  (60, .invokevirtual 308, 3),
  (63, .istore_n 1, 1),
  (64, .iload_n 1, 1),
  (65, .iconst (-1), 1),
  (66, .if_icmp .eq 23, 3),
  (69, .aload_n 0, 1),
  (70, .getfield 245, 3),
  (73, .ifCond .ne 16, 3),
  (76, .aload_n 0, 1),
  (77, .iload_n 1, 1),
  (78, .invokevirtual 311, 3),
  (81, .aload_n 0, 1),
  (82, .invokevirtual 308, 3),
  (85, .istore_n 1, 1),
  (86, .goto (-22), 3),
  (89, .aload_n 0, 1),
  (90, .getfield 245, 3),
  (93, .ifCond .ne 7, 3),
  (96, .aload_n 0, 1),
  (97, .invokevirtual 314, 3),
  (100, .return_, 1)]
def mi_M_readsBlock : mi_T := ("DataflowLabModel", ({ cls := "DataflowLabModel", name := "readsBlock", desc := "()V" } : MethodName), prog_14_method_78_code, 2, (Option.none : Option FieldType), [], tb_M_readsBlock)
theorem mo_M_readsBlock : mi_ok mi_M_readsBlock := by
  show ∀ q ∈ tb_M_readsBlock, decode prog_14_method_78_code q.1 = .ok q.2
  decide +kernel
theorem mw_M_readsBlock : mi_w mi_M_readsBlock 0 := ⟨tb_m 1941 (by decide +kernel) (by decide +kernel), tb_m 161 (by decide +kernel) rfl, ⟨by decide +kernel, by decide +kernel, by decide +kernel⟩, by decide +kernel⟩
theorem mv_M_readsBlock : mi_wV mi_M_readsBlock := ⟨tb_m 1940 (by decide +kernel) rfl, tb_m 62 (by decide +kernel) rfl⟩
def tb_M_checksWays : List (Nat × Instr × Nat) := [(0, .iconst 0, 1),
  (1, .istore_n 1, 1),
  (2, .iload_n 1, 1),
  (3, .aload_n 0, 1),
  (4, .iconst 0, 1),
  (5, .invokevirtual 61, 3),
  (8, .if_icmp .ge 69, 3),
  (11, .iconst 0, 1),
  (12, .istore_n 2, 1),
  (13, .iload_n 2, 1),
  (14, .aload_n 0, 1),
  (15, .iload_n 1, 1),
  (16, .invokevirtual 90, 3),
  (19, .if_icmp .ge 52, 3),
  (22, .aload_n 0, 1),
  (23, .getfield 245, 3),
  (26, .ifCond .ne 39, 3),
  (29, .aload_n 0, 1),
  (30, .iload_n 1, 1),
  (31, .iload_n 2, 1),
  (32, .invokevirtual 93, 3),
  (35, .aload_n 0, 1),
  (36, .iconst 0, 1),
  (37, .invokevirtual 61, 3),
  (40, .if_icmp .ge 6, 3),
  (43, .goto 22, 3),
  (46, .aload_n 0, 1),
  (47, .iconst 4, 1),
  (48, .putfield 245, 3),
  (51, .aload_n 0, 1),
  (52, .aload_n 0, 1),
  (53, .getfield 39, 3),
  (56, .iconst 2, 1),
  (57, .iload_n 1, 1),
  (58, .imul, 1),
  (59, .iload_n 2, 1),
  (60, .iadd, 1),
  (61, .iaload, 1),
  (62, .putfield 35, 3),
  (65, .iinc 2 1, 3),
  (68, .goto (-55), 3),
  (71, .iinc 1 1, 3),
  (74, .goto (-72), 3),
  (77, .return_, 1)]
def mi_M_checksWays : mi_T := ("DataflowLabModel", ({ cls := "DataflowLabModel", name := "checksWays", desc := "()V" } : MethodName), prog_14_method_79_code, 3, (Option.none : Option FieldType), [], tb_M_checksWays)
theorem mo_M_checksWays : mi_ok mi_M_checksWays := by
  show ∀ q ∈ tb_M_checksWays, decode prog_14_method_79_code q.1 = .ok q.2
  decide +kernel
theorem mw_M_checksWays : mi_w mi_M_checksWays 0 := ⟨tb_m 2002 (by decide +kernel) (by decide +kernel), tb_m 161 (by decide +kernel) rfl, ⟨by decide +kernel, by decide +kernel, by decide +kernel⟩, by decide +kernel⟩
theorem mv_M_checksWays : mi_wV mi_M_checksWays := ⟨tb_m 2001 (by decide +kernel) rfl, tb_m 74 (by decide +kernel) rfl⟩
def tb_M_loadProgram : List (Nat × Instr × Nat) := [(0, .aload_n 0, 1),
  (1, .iconst 0, 1),
  (2, .putfield 55, 3),
  (5, .aload_n 0, 1),
  (6, .bipush 9, 2),
  (8, .putfield 58, 3),
  (11, .iconst 0, 1),
  (12, .istore_n 1, 1),
  (13, .iload_n 1, 1),
  (14, .sipush 262, 3),
  (17, .if_icmp .ge 15, 3),
  (20, .aload_n 0, 1),
  (21, .iload_n 1, 1),
  (22, .iconst 0, 1),
  (23, .invokevirtual 65, 3),
  (26, .iinc 1 1, 3),
  (29, .goto (-16), 3),
  (32, .aload_n 0, 1),
  (33, .iconst 0, 1),
  (34, .putfield 245, 3),
  (37, .aload_n 0, 1),
  (38, .iconst (-1), 1),
  (39, .putfield 35, 3),
  (42, .aload_n 0, 1),
  (43, .iconst 0, 1),
  (44, .putfield 229, 3),
  (47, .aload_n 0, 1),
  (48, .invokevirtual 257, 3),
  (51, .aload_n 0, 1),
  (52, .getfield 245, 3),
  (55, .ifCond .ne 25, 3),
  (58, .aload_n 0, 1),
  (59, .iconst 0, 1),
  (60, .invokevirtual 61, 3),
  (63, .ifCond .eq 10, 3),
  (66, .aload_n 0, 1),
  (67, .getfield 238, 3),
  (70, .ifCond .eq 10, 3),
  (73, .aload_n 0, 1),
  (74, .invokevirtual 317, 3),
  (77, .goto (-26), 3),
  (80, .aload_n 0, 1),
  (81, .getfield 245, 3),
  (84, .ifCond .ne 7, 3),
  (87, .aload_n 0, 1),
  (88, .invokevirtual 320, 3),
  (91, .aload_n 0, 1),
  (92, .iconst 0, 1),
  (93, .putfield 58, 3),
  (96, .aload_n 0, 1),
  (97, .iconst 0, 1),
  (98, .putfield 226, 3),
  (101, .aload_n 0, 1),
  (102, .getfield 245, 3),
  (105, .ifCond .eq 5, 3),
  (108, .iconst (-1), 1),
  (109, .ireturn, 1),
  (110, .aload_n 0, 1),
  (111, .bipush 9, 2),
  (113, .iconst 0, 1),
  (114, .invokevirtual 323, 3),
  (117, .aload_n 0, 1),
  (118, .iconst 0, 1),
  (119, .putfield 326, 3),
  (122, .aload_n 0, 1),
  (123, .iconst 0, 1),
  (124, .invokevirtual 61, 3),
  (127, .ireturn, 1)]
def mi_M_loadProgram : mi_T := ("DataflowLabModel", ({ cls := "DataflowLabModel", name := "loadProgram", desc := "()I" } : MethodName), prog_14_method_80_code, 2, (Option.some FieldType.int), [], tb_M_loadProgram)
theorem mo_M_loadProgram : mi_ok mi_M_loadProgram := by
  show ∀ q ∈ tb_M_loadProgram, decode prog_14_method_80_code q.1 = .ok q.2
  decide +kernel
theorem mw_M_loadProgram : mi_w mi_M_loadProgram 0 := ⟨tb_m 1925 (by decide +kernel) (by decide +kernel), tb_m 161 (by decide +kernel) rfl, ⟨by decide +kernel, by decide +kernel, by decide +kernel⟩, by decide +kernel⟩
theorem mv_M_loadProgram : mi_wV mi_M_loadProgram := ⟨tb_m 1923 (by decide +kernel) rfl, tb_m 1924 (by decide +kernel) rfl⟩
def tb_M_errorCode : List (Nat × Instr × Nat) := [(0, .aload_n 0, 1),
  (1, .iconst 0, 1),
  (2, .putfield 55, 3),
  (5, .aload_n 0, 1),
  (6, .getfield 245, 3),
  (9, .ireturn, 1)]
def mi_M_errorCode : mi_T := ("DataflowLabModel", ({ cls := "DataflowLabModel", name := "errorCode", desc := "()I" } : MethodName), prog_14_method_81_code, 1, (Option.some FieldType.int), [], tb_M_errorCode)
theorem mo_M_errorCode : mi_ok mi_M_errorCode := by
  show ∀ q ∈ tb_M_errorCode, decode prog_14_method_81_code q.1 = .ok q.2
  decide +kernel
theorem mw_M_errorCode : mi_w mi_M_errorCode 0 := ⟨tb_m 2018 (by decide +kernel) (by decide +kernel), tb_m 161 (by decide +kernel) rfl, ⟨by decide +kernel, by decide +kernel, by decide +kernel⟩, by decide +kernel⟩
theorem mv_M_errorCode : mi_wV mi_M_errorCode := ⟨tb_m 2016 (by decide +kernel) rfl, tb_m 2017 (by decide +kernel) rfl⟩
def tb_M_errorPosition : List (Nat × Instr × Nat) := [(0, .aload_n 0, 1),
  (1, .iconst 0, 1),
  (2, .putfield 55, 3),
  (5, .aload_n 0, 1),
  (6, .getfield 35, 3),
  (9, .ireturn, 1)]
def mi_M_errorPosition : mi_T := ("DataflowLabModel", ({ cls := "DataflowLabModel", name := "errorPosition", desc := "()I" } : MethodName), prog_14_method_82_code, 1, (Option.some FieldType.int), [], tb_M_errorPosition)
theorem mo_M_errorPosition : mi_ok mi_M_errorPosition := by
  show ∀ q ∈ tb_M_errorPosition, decode prog_14_method_82_code q.1 = .ok q.2
  decide +kernel
theorem mw_M_errorPosition : mi_w mi_M_errorPosition 0 := ⟨tb_m 2022 (by decide +kernel) (by decide +kernel), tb_m 161 (by decide +kernel) rfl, ⟨by decide +kernel, by decide +kernel, by decide +kernel⟩, by decide +kernel⟩
theorem mv_M_errorPosition : mi_wV mi_M_errorPosition := ⟨tb_m 2020 (by decide +kernel) rfl, tb_m 2021 (by decide +kernel) rfl⟩
def tb_M_isBlock : List (Nat × Instr × Nat) := [(0, .aload_n 0, 1),
  (1, .iconst 0, 1),
  (2, .putfield 55, 3),
  (5, .iload_n 1, 1),
  (6, .iconst 0, 1),
  (7, .aload_n 0, 1),
  (8, .iconst 0, 1),
  (9, .invokevirtual 61, 3),
  (12, .iconst 1, 1),
  (13, .isub, 1),
  (14, .invokestatic 124, 3),
  (17, .ifCond .eq 5, 3),
  (20, .iconst 1, 1),
  (21, .ireturn, 1),
  (22, .aload_n 0, 1),
  (23, .iconst 1, 1),
  (24, .putfield 55, 3),
  (27, .iconst 0, 1),
  (28, .ireturn, 1)]
def mi_M_isBlock : mi_T := ("DataflowLabModel", ({ cls := "DataflowLabModel", name := "isBlock", desc := "(I)Z" } : MethodName), prog_14_method_83_code, 2, (Option.some FieldType.boolean), [], tb_M_isBlock)
theorem mo_M_isBlock : mi_ok mi_M_isBlock := by
  show ∀ q ∈ tb_M_isBlock, decode prog_14_method_83_code q.1 = .ok q.2
  decide +kernel
theorem mw_M_isBlock : mi_w mi_M_isBlock 1 := ⟨tb_m 2038 (by decide +kernel) (by decide +kernel), tb_m 161 (by decide +kernel) rfl, ⟨by decide +kernel, by decide +kernel, by decide +kernel⟩, by decide +kernel⟩
theorem mv_M_isBlock : mi_wV mi_M_isBlock := ⟨tb_m 2037 (by decide +kernel) rfl, tb_m 78 (by decide +kernel) rfl⟩
def tb_M_isItem : List (Nat × Instr × Nat) := [(0, .aload_n 0, 1),
  (1, .iconst 0, 1),
  (2, .putfield 55, 3),
  (5, .iload_n 1, 1),
  (6, .iconst 0, 1),
  (7, .aload_n 0, 1),
  (8, .iconst 1, 1),
  (9, .invokevirtual 61, 3),
  (12, .iconst 1, 1),
  (13, .isub, 1),
  (14, .invokestatic 124, 3),
  (17, .ifCond .eq 5, 3),
  (20, .iconst 1, 1),
  (21, .ireturn, 1),
  (22, .aload_n 0, 1),
  (23, .iconst 1, 1),
  (24, .putfield 55, 3),
  (27, .iconst 0, 1),
  (28, .ireturn, 1)]
def mi_M_isItem : mi_T := ("DataflowLabModel", ({ cls := "DataflowLabModel", name := "isItem", desc := "(I)Z" } : MethodName), prog_14_method_84_code, 2, (Option.some FieldType.boolean), [], tb_M_isItem)
theorem mo_M_isItem : mi_ok mi_M_isItem := by
  show ∀ q ∈ tb_M_isItem, decode prog_14_method_84_code q.1 = .ok q.2
  decide +kernel
theorem mw_M_isItem : mi_w mi_M_isItem 1 := ⟨tb_m 2046 (by decide +kernel) (by decide +kernel), tb_m 161 (by decide +kernel) rfl, ⟨by decide +kernel, by decide +kernel, by decide +kernel⟩, by decide +kernel⟩
theorem mv_M_isItem : mi_wV mi_M_isItem := ⟨tb_m 2045 (by decide +kernel) rfl, tb_m 79 (by decide +kernel) rfl⟩
def tb_M_isVariable : List (Nat × Instr × Nat) := [(0, .iload_n 1, 1),
  (1, .iconst 0, 1),
  (2, .bipush 7, 2),
  (4, .invokestatic 124, 3),
  (7, .ifCond .eq 5, 3),
  (10, .iconst 1, 1),
  (11, .ireturn, 1),
  (12, .aload_n 0, 1),
  (13, .iload_n 2, 1),
  (14, .putfield 55, 3),
  (17, .iconst 0, 1),
  (18, .ireturn, 1)]
def mi_M_isVariable : mi_T := ("DataflowLabModel", ({ cls := "DataflowLabModel", name := "isVariable", desc := "(II)Z" } : MethodName), prog_14_method_85_code, 3, (Option.some FieldType.boolean), [], tb_M_isVariable)
theorem mo_M_isVariable : mi_ok mi_M_isVariable := by
  show ∀ q ∈ tb_M_isVariable, decode prog_14_method_85_code q.1 = .ok q.2
  decide +kernel
theorem mw_M_isVariable : mi_w mi_M_isVariable 2 := ⟨tb_m 2129 (by decide +kernel) (by decide +kernel), tb_m 161 (by decide +kernel) rfl, ⟨by decide +kernel, by decide +kernel, by decide +kernel⟩, by decide +kernel⟩
theorem mv_M_isVariable : mi_wV mi_M_isVariable := ⟨tb_m 2128 (by decide +kernel) rfl, tb_m 92 (by decide +kernel) rfl⟩
def tb_M_blockCount : List (Nat × Instr × Nat) := [(0, .aload_n 0, 1),
  (1, .iconst 0, 1),
  (2, .putfield 55, 3),
  (5, .aload_n 0, 1),
  (6, .iconst 0, 1),
  (7, .invokevirtual 61, 3),
  (10, .ireturn, 1)]
def mi_M_blockCount : mi_T := ("DataflowLabModel", ({ cls := "DataflowLabModel", name := "blockCount", desc := "()I" } : MethodName), prog_14_method_86_code, 1, (Option.some FieldType.int), [], tb_M_blockCount)
theorem mo_M_blockCount : mi_ok mi_M_blockCount := by
  show ∀ q ∈ tb_M_blockCount, decode prog_14_method_86_code q.1 = .ok q.2
  decide +kernel
theorem mw_M_blockCount : mi_w mi_M_blockCount 0 := ⟨tb_m 2026 (by decide +kernel) (by decide +kernel), tb_m 161 (by decide +kernel) rfl, ⟨by decide +kernel, by decide +kernel, by decide +kernel⟩, by decide +kernel⟩
theorem mv_M_blockCount : mi_wV mi_M_blockCount := ⟨tb_m 2024 (by decide +kernel) rfl, tb_m 2025 (by decide +kernel) rfl⟩
def tb_M_instructionCount : List (Nat × Instr × Nat) := [(0, .aload_n 0, 1),
  (1, .iconst 0, 1),
  (2, .putfield 55, 3),
  (5, .aload_n 0, 1),
  (6, .iconst 1, 1),
  (7, .invokevirtual 61, 3),
  (10, .ireturn, 1)]
def mi_M_instructionCount : mi_T := ("DataflowLabModel", ({ cls := "DataflowLabModel", name := "instructionCount", desc := "()I" } : MethodName), prog_14_method_87_code, 1, (Option.some FieldType.int), [], tb_M_instructionCount)
theorem mo_M_instructionCount : mi_ok mi_M_instructionCount := by
  show ∀ q ∈ tb_M_instructionCount, decode prog_14_method_87_code q.1 = .ok q.2
  decide +kernel
theorem mw_M_instructionCount : mi_w mi_M_instructionCount 0 := ⟨tb_m 2030 (by decide +kernel) (by decide +kernel), tb_m 161 (by decide +kernel) rfl, ⟨by decide +kernel, by decide +kernel, by decide +kernel⟩, by decide +kernel⟩
theorem mv_M_instructionCount : mi_wV mi_M_instructionCount := ⟨tb_m 2028 (by decide +kernel) rfl, tb_m 2029 (by decide +kernel) rfl⟩
def tb_M_instructionsIn : List (Nat × Instr × Nat) := [(0, .aload_n 0, 1),
  (1, .iload_n 1, 1),
  (2, .invokevirtual 329, 3),
  (5, .ifCond .ne 5, 3),
  (8, .iconst 0, 1),
  (9, .ireturn, 1),
  (10, .aload_n 0, 1),
  (11, .iload_n 1, 1),
  (12, .iconst 0, 1),
  (13, .invokevirtual 80, 3),
  (16, .ireturn, 1)]
def mi_M_instructionsIn : mi_T := ("DataflowLabModel", ({ cls := "DataflowLabModel", name := "instructionsIn", desc := "(I)I" } : MethodName), prog_14_method_88_code, 2, (Option.some FieldType.int), [], tb_M_instructionsIn)
theorem mo_M_instructionsIn : mi_ok mi_M_instructionsIn := by
  show ∀ q ∈ tb_M_instructionsIn, decode prog_14_method_88_code q.1 = .ok q.2
  decide +kernel
theorem mw_M_instructionsIn : mi_w mi_M_instructionsIn 1 := ⟨tb_m 2034 (by decide +kernel) (by decide +kernel), tb_m 161 (by decide +kernel) rfl, ⟨by decide +kernel, by decide +kernel, by decide +kernel⟩, by decide +kernel⟩
theorem mv_M_instructionsIn : mi_wV mi_M_instructionsIn := ⟨tb_m 2032 (by decide +kernel) rfl, tb_m 2033 (by decide +kernel) rfl⟩
def tb_M_blockOf : List (Nat × Instr × Nat) := [(0, .aload_n 0, 1),
  (1, .iload_n 1, 1),
  (2, .invokevirtual 332, 3),
  (5, .ifCond .ne 5, 3),
  (8, .iconst 0, 1),
  (9, .ireturn, 1),
  (10, .aload_n 0, 1),
  (11, .iload_n 1, 1),
  (12, .invokevirtual 121, 3),
  (15, .ireturn, 1)]
def mi_M_blockOf : mi_T := ("DataflowLabModel", ({ cls := "DataflowLabModel", name := "blockOf", desc := "(I)I" } : MethodName), prog_14_method_89_code, 2, (Option.some FieldType.int), [], tb_M_blockOf)
theorem mo_M_blockOf : mi_ok mi_M_blockOf := by
  show ∀ q ∈ tb_M_blockOf, decode prog_14_method_89_code q.1 = .ok q.2
  decide +kernel
theorem mw_M_blockOf : mi_w mi_M_blockOf 1 := ⟨tb_m 2042 (by decide +kernel) (by decide +kernel), tb_m 161 (by decide +kernel) rfl, ⟨by decide +kernel, by decide +kernel, by decide +kernel⟩, by decide +kernel⟩
theorem mv_M_blockOf : mi_wV mi_M_blockOf := ⟨tb_m 2040 (by decide +kernel) rfl, tb_m 2041 (by decide +kernel) rfl⟩
def tb_M_kindOf : List (Nat × Instr × Nat) := [(0, .aload_n 0, 1),
  (1, .iload_n 1, 1),
  (2, .invokevirtual 332, 3),
  (5, .ifCond .ne 5, 3),
  (8, .iconst 0, 1),
  (9, .ireturn, 1),
  (10, .aload_n 0, 1),
  (11, .iload_n 1, 1),
  (12, .iconst 0, 1),
  (13, .invokevirtual 96, 3),
  (16, .ireturn, 1)]
def mi_M_kindOf : mi_T := ("DataflowLabModel", ({ cls := "DataflowLabModel", name := "kindOf", desc := "(I)I" } : MethodName), prog_14_method_90_code, 2, (Option.some FieldType.int), [], tb_M_kindOf)
theorem mo_M_kindOf : mi_ok mi_M_kindOf := by
  show ∀ q ∈ tb_M_kindOf, decode prog_14_method_90_code q.1 = .ok q.2
  decide +kernel
theorem mw_M_kindOf : mi_w mi_M_kindOf 1 := ⟨tb_m 2062 (by decide +kernel) (by decide +kernel), tb_m 161 (by decide +kernel) rfl, ⟨by decide +kernel, by decide +kernel, by decide +kernel⟩, by decide +kernel⟩
theorem mv_M_kindOf : mi_wV mi_M_kindOf := ⟨tb_m 2060 (by decide +kernel) rfl, tb_m 2061 (by decide +kernel) rfl⟩
def tb_M_successor : List (Nat × Instr × Nat) := [(0, .aload_n 0, 1),
  (1, .iload_n 1, 1),
  (2, .invokevirtual 329, 3),
  (5, .ifCond .ne 5, 3),
  (8, .iconst 0, 1),
  (9, .ireturn, 1),
  (10, .iload_n 2, 1),
  (11, .ifCond .lt 12, 3),
  (14, .iload_n 2, 1),
  (15, .aload_n 0, 1),
  (16, .iload_n 1, 1),
  (17, .invokevirtual 90, 3),
  (20, .if_icmp .lt 10, 3),
  (23, .aload_n 0, 1),
  (24, .iconst 2, 1),
  (25, .putfield 55, 3),
  (28, .iconst 0, 1),
  (29, .ireturn, 1),
  (30, .aload_n 0, 1),
  (31, .iload_n 1, 1),
  (32, .iload_n 2, 1),
  (33, .invokevirtual 93, 3),
  (36, .ireturn, 1)]
def mi_M_successor : mi_T := ("DataflowLabModel", ({ cls := "DataflowLabModel", name := "successor", desc := "(II)I" } : MethodName), prog_14_method_91_code, 3, (Option.some FieldType.int), [], tb_M_successor)
theorem mo_M_successor : mi_ok mi_M_successor := by
  show ∀ q ∈ tb_M_successor, decode prog_14_method_91_code q.1 = .ok q.2
  decide +kernel
theorem mw_M_successor : mi_w mi_M_successor 2 := ⟨tb_m 2070 (by decide +kernel) (by decide +kernel), tb_m 161 (by decide +kernel) rfl, ⟨by decide +kernel, by decide +kernel, by decide +kernel⟩, by decide +kernel⟩
theorem mv_M_successor : mi_wV mi_M_successor := ⟨tb_m 2068 (by decide +kernel) rfl, tb_m 2069 (by decide +kernel) rfl⟩
def tb_M_predecessors : List (Nat × Instr × Nat) := [(0, .aload_n 0, 1),
  (1, .iload_n 1, 1),
  (2, .invokevirtual 329, 3),
  (5, .ifCond .ne 5, 3),
  (8, .iconst 0, 1),
  (9, .ireturn, 1),
  (10, .iconst 0, 1),
  (11, .istore_n 2, 1),
  (12, .iconst 0, 1),
  (13, .istore_n 3, 1),
  (14, .iload_n 3, 1),
  (15, .aload_n 0, 1),
  (16, .iconst 0, 1),
  (17, .invokevirtual 61, 3),
  (20, .if_icmp .ge 21, 3),
  (23, .iload_n 2, 1),
  (24, .aload_n 0, 1),
  (25, .iload_n 3, 1),
  (26, .iload_n 1, 1),
  (27, .invokevirtual 172, 3),
  (30, .invokestatic 117, 3),
  (33, .iadd, 1),
  (34, .istore_n 2, 1),
  (35, .iinc 3 1, 3),
  (38, .goto (-24), 3),
  (41, .iload_n 2, 1),
  (42, .ireturn, 1)]
def mi_M_predecessors : mi_T := ("DataflowLabModel", ({ cls := "DataflowLabModel", name := "predecessors", desc := "(I)I" } : MethodName), prog_14_method_92_code, 4, (Option.some FieldType.int), [], tb_M_predecessors)
theorem mo_M_predecessors : mi_ok mi_M_predecessors := by
  show ∀ q ∈ tb_M_predecessors, decode prog_14_method_92_code q.1 = .ok q.2
  decide +kernel
theorem mw_M_predecessors : mi_w mi_M_predecessors 1 := ⟨tb_m 2074 (by decide +kernel) (by decide +kernel), tb_m 161 (by decide +kernel) rfl, ⟨by decide +kernel, by decide +kernel, by decide +kernel⟩, by decide +kernel⟩
theorem mv_M_predecessors : mi_wV mi_M_predecessors := ⟨tb_m 2072 (by decide +kernel) rfl, tb_m 2073 (by decide +kernel) rfl⟩
def tb_M_isReachable : List (Nat × Instr × Nat) := [(0, .aload_n 0, 1),
  (1, .iload_n 1, 1),
  (2, .invokevirtual 329, 3),
  (5, .ifCond .ne 5, 3),
  (8, .iconst 0, 1),
  (9, .ireturn, 1),
  (10, .aload_n 0, 1),
  (11, .iload_n 1, 1),
  (12, .iconst (-1), 1),
  (13, .invokevirtual 155, 3),
  (16, .ireturn, 1)]
def mi_M_isReachable : mi_T := ("DataflowLabModel", ({ cls := "DataflowLabModel", name := "isReachable", desc := "(I)Z" } : MethodName), prog_14_method_93_code, 2, (Option.some FieldType.boolean), [], tb_M_isReachable)
theorem mo_M_isReachable : mi_ok mi_M_isReachable := by
  show ∀ q ∈ tb_M_isReachable, decode prog_14_method_93_code q.1 = .ok q.2
  decide +kernel
theorem mw_M_isReachable : mi_w mi_M_isReachable 1 := ⟨tb_m 2085 (by decide +kernel) (by decide +kernel), tb_m 161 (by decide +kernel) rfl, ⟨by decide +kernel, by decide +kernel, by decide +kernel⟩, by decide +kernel⟩
theorem mv_M_isReachable : mi_wV mi_M_isReachable := ⟨tb_m 2083 (by decide +kernel) rfl, tb_m 2084 (by decide +kernel) rfl⟩
def tb_M_distanceTo : List (Nat × Instr × Nat) := [(0, .aload_n 0, 1),
  (1, .iload_n 1, 1),
  (2, .invokevirtual 329, 3),
  (5, .ifCond .ne 5, 3),
  (8, .iconst 0, 1),
  (9, .ireturn, 1),
  (10, .bipush 12, 2),
  (12, .newarray .boolean, 2),
  (14, .astore_n 2, 1),
  (15, .aload_n 2, 1),
  (16, .iconst 0, 1),
  (17, .iconst 1, 1),
  (18, .bastore, 1),
  (19, .iconst 0, 1),
  (20, .istore_n 3, 1),
  (21, .iload_n 3, 1),
  (22, .bipush 12, 2),
  (24, .if_icmp .ge 96, 3),
  (27, .aload_n 2, 1),
  (28, .iload_n 1, 1),
  (29, .baload, 1),
  (30, .ifCond .eq 5, 3),
  (33, .iload_n 3, 1),
  (34, .ireturn, 1),
  (35, .bipush 12, 2),
  (37, .newarray .boolean, 2),
  (39, .astore 4, 2),
  (41, .iconst 0, 1),
  (42, .istore 5, 2),
  (44, .iload 5, 2),
  (46, .aload_n 0, 1),
  (47, .iconst 0, 1),
  (48, .invokevirtual 61, 3),
  (51, .if_icmp .ge 60, 3),
  (54, .aload 4, 2),
  (56, .iload 5, 2),
  (58, .dup2, 1),
  (59, .baload, 1),
  (60, .aload_n 2, 1),
  (61, .iload 5, 2),
  (63, .baload, 1),
  (64, .ior, 1),
  (65, .bastore, 1),
  (66, .iconst 0, 1),
  (67, .istore 6, 2),
  (69, .iload 6, 2),
  (71, .aload_n 0, 1),
  (72, .iload 5, 2),
  (74, .invokevirtual 90, 3),
  (77, .if_icmp .ge 28, 3),
  (80, .aload_n 2, 1),
  (81, .iload 5, 2),
  (83, .baload, 1),
  (84, .ifCond .eq 21, 3),
  (87, .aload 4, 2),
  (89, .aload_n 0, 1),
  (90, .iload 5, 2),
  (92, .iload 6, 2),
  (94, .invokevirtual 93, 3),
  (97, .iconst 1, 1),
  (98, .bastore, 1),
  (99, .iinc 6 1, 3),
  (102, .goto (-33), 3),
  (105, .iinc 5 1, 3),
  (108, .goto (-64), 3),
  (111, .aload 4, 2),
  (113, .astore_n 2, 1),
  (114, .iinc 3 1, 3),
  (117, .goto (-96), 3),
  (120, .iconst (-1), 1),
  (121, .ireturn, 1)]
def mi_M_distanceTo : mi_T := ("DataflowLabModel", ({ cls := "DataflowLabModel", name := "distanceTo", desc := "(I)I" } : MethodName), prog_14_method_94_code, 7, (Option.some FieldType.int), [], tb_M_distanceTo)
theorem mo_M_distanceTo : mi_ok mi_M_distanceTo := by
  show ∀ q ∈ tb_M_distanceTo, decode prog_14_method_94_code q.1 = .ok q.2
  decide +kernel
theorem mw_M_distanceTo : mi_w mi_M_distanceTo 1 := ⟨tb_m 2113 (by decide +kernel) (by decide +kernel), tb_m 161 (by decide +kernel) rfl, ⟨by decide +kernel, by decide +kernel, by decide +kernel⟩, by decide +kernel⟩
theorem mv_M_distanceTo : mi_wV mi_M_distanceTo := ⟨tb_m 2111 (by decide +kernel) rfl, tb_m 2112 (by decide +kernel) rfl⟩
def tb_M_reaches : List (Nat × Instr × Nat) := [(0, .aload_n 0, 1),
  (1, .iload_n 1, 1),
  (2, .invokevirtual 332, 3),
  (5, .ifCond .eq 11, 3),
  (8, .aload_n 0, 1),
  (9, .iload_n 2, 1),
  (10, .invokevirtual 329, 3),
  (13, .ifCond .ne 5, 3),
  (16, .iconst 0, 1),
  (17, .ireturn, 1),
  (18, .aload_n 0, 1),
  (19, .iload_n 1, 1),
  (20, .iload_n 2, 1),
  (21, .invokevirtual 127, 3),
  (24, .ireturn, 1)]
def mi_M_reaches : mi_T := ("DataflowLabModel", ({ cls := "DataflowLabModel", name := "reaches", desc := "(II)Z" } : MethodName), prog_14_method_95_code, 3, (Option.some FieldType.boolean), [], tb_M_reaches)
theorem mo_M_reaches : mi_ok mi_M_reaches := by
  show ∀ q ∈ tb_M_reaches, decode prog_14_method_95_code q.1 = .ok q.2
  decide +kernel
theorem mw_M_reaches : mi_w mi_M_reaches 2 := ⟨tb_m 2117 (by decide +kernel) (by decide +kernel), tb_m 161 (by decide +kernel) rfl, ⟨by decide +kernel, by decide +kernel, by decide +kernel⟩, by decide +kernel⟩
theorem mv_M_reaches : mi_wV mi_M_reaches := ⟨tb_m 2115 (by decide +kernel) rfl, tb_m 2116 (by decide +kernel) rfl⟩
def tb_M_reachingDefinitions : List (Nat × Instr × Nat) := [(0, .aload_n 0, 1),
  (1, .iload_n 1, 1),
  (2, .invokevirtual 329, 3),
  (5, .ifCond .eq 12, 3),
  (8, .aload_n 0, 1),
  (9, .iload_n 2, 1),
  (10, .iconst 2, 1),
  (11, .invokevirtual 335, 3),
  (14, .ifCond .ne 5, 3),
  (17, .iconst 0, 1),
  (18, .ireturn, 1),
  (19, .iconst 0, 1),
  (20, .istore_n 3, 1),
  (21, .iconst 0, 1),
  (22, .istore 4, 2),
  (24, .iload 4, 2),
  (26, .aload_n 0, 1),
  (27, .iconst 1, 1),
  (28, .invokevirtual 61, 3),
  (31, .if_icmp .ge 40, 3),
  (34, .iload_n 3, 1),
  (35, .aload_n 0, 1),
  (36, .iload 4, 2),
  (38, .iload_n 2, 1),
  (39, .invokevirtual 103, 3),
  (42, .ifCond .eq 17, 3),
  (45, .aload_n 0, 1),
  (46, .iload 4, 2),
  (48, .iload_n 1, 1),
  (49, .invokevirtual 127, 3),
  (52, .ifCond .eq 7, 3),
  (55, .iconst 1, 1),
  (56, .goto 4, 3),
  (59, .iconst 0, 1),
  (60, .invokestatic 117, 3),
  (63, .iadd, 1),
  (64, .istore_n 3, 1),
  (65, .iinc 4 1, 3),
  (68, .goto (-44), 3),
  (71, .iload_n 3, 1),
  (72, .ireturn, 1)]
def mi_M_reachingDefinitions : mi_T := ("DataflowLabModel", ({ cls := "DataflowLabModel", name := "reachingDefinitions", desc := "(II)I" } : MethodName), prog_14_method_96_code, 5, (Option.some FieldType.int), [], tb_M_reachingDefinitions)
theorem mo_M_reachingDefinitions : mi_ok mi_M_reachingDefinitions := by
  show ∀ q ∈ tb_M_reachingDefinitions, decode prog_14_method_96_code q.1 = .ok q.2
  decide +kernel
theorem mw_M_reachingDefinitions : mi_w mi_M_reachingDefinitions 2 := ⟨tb_m 2125 (by decide +kernel) (by decide +kernel), tb_m 161 (by decide +kernel) rfl, ⟨by decide +kernel, by decide +kernel, by decide +kernel⟩, by decide +kernel⟩
theorem mv_M_reachingDefinitions : mi_wV mi_M_reachingDefinitions := ⟨tb_m 2123 (by decide +kernel) rfl, tb_m 2124 (by decide +kernel) rfl⟩
def tb_M_isInitialReaching : List (Nat × Instr × Nat) := [(0, .aload_n 0, 1),
  (1, .iload_n 1, 1),
  (2, .invokevirtual 329, 3),
  (5, .ifCond .eq 12, 3),
  (8, .aload_n 0, 1),
  (9, .iload_n 2, 1),
  (10, .iconst 2, 1),
  (11, .invokevirtual 335, 3),
  (14, .ifCond .ne 5, 3),
  (17, .iconst 0, 1),
  (18, .ireturn, 1),
  (19, .aload_n 0, 1),
  (20, .iload_n 1, 1),
  (21, .iload_n 2, 1),
  (22, .invokevirtual 130, 3),
  (25, .ireturn, 1)]
def mi_M_isInitialReaching : mi_T := ("DataflowLabModel", ({ cls := "DataflowLabModel", name := "isInitialReaching", desc := "(II)Z" } : MethodName), prog_14_method_97_code, 3, (Option.some FieldType.boolean), [], tb_M_isInitialReaching)
theorem mo_M_isInitialReaching : mi_ok mi_M_isInitialReaching := by
  show ∀ q ∈ tb_M_isInitialReaching, decode prog_14_method_97_code q.1 = .ok q.2
  decide +kernel
theorem mw_M_isInitialReaching : mi_w mi_M_isInitialReaching 2 := ⟨tb_m 2133 (by decide +kernel) (by decide +kernel), tb_m 161 (by decide +kernel) rfl, ⟨by decide +kernel, by decide +kernel, by decide +kernel⟩, by decide +kernel⟩
theorem mv_M_isInitialReaching : mi_wV mi_M_isInitialReaching := ⟨tb_m 2131 (by decide +kernel) rfl, tb_m 2132 (by decide +kernel) rfl⟩
def tb_M_usesOf : List (Nat × Instr × Nat) := [(0, .aload_n 0, 1),
  (1, .iload_n 1, 1),
  (2, .invokevirtual 332, 3),
  (5, .ifCond .ne 5, 3),
  (8, .iconst 0, 1),
  (9, .ireturn, 1),
  (10, .aload_n 0, 1),
  (11, .iload_n 1, 1),
  (12, .invokevirtual 99, 3),
  (15, .ifCond .ne 5, 3),
  (18, .iconst 0, 1),
  (19, .ireturn, 1),
  (20, .aload_n 0, 1),
  (21, .iload_n 1, 1),
  (22, .iconst 1, 1),
  (23, .invokevirtual 96, 3),
  (26, .istore_n 2, 1),
  (27, .iconst 0, 1),
  (28, .istore_n 3, 1),
  (29, .iconst 0, 1),
  (30, .istore 4, 2),
  (32, .iload 4, 2),
  (34, .aload_n 0, 1),
  (35, .iconst 0, 1),
  (36, .invokevirtual 61, 3),
  (39, .if_icmp .ge 104, 3),
  (42, .aload_n 0, 1),
  (43, .iload 4, 2),
  (45, .invokevirtual 84, 3),
  (48, .istore 5, 2),
  (50, .iload 5, 2),
  (52, .aload_n 0, 1),
  (53, .iload 4, 2),
  (55, .invokevirtual 87, 3),
  (58, .if_icmp .ge 42, 3),
  (61, .iload_n 3, 1),
  (62, .aload_n 0, 1),
  (63, .iload 5, 2),
  (65, .iload_n 2, 1),
  (66, .invokevirtual 133, 3),
  (69, .ifCond .eq 19, 3),
  (72, .aload_n 0, 1),
  (73, .iload_n 1, 1),
  (74, .iload 4, 2),
  (76, .iload 5, 2),
  (78, .invokevirtual 338, 3),
  (81, .ifCond .eq 7, 3),
  (84, .iconst 1, 1),
  (85, .goto 4, 3),
  (88, .iconst 0, 1),
  (89, .invokestatic 117, 3),
  (92, .iadd, 1),
  (93, .istore_n 3, 1),
  (94, .iinc 5 1, 3),
  (97, .goto (-47), 3),
  (100, .iload_n 3, 1),
  (101, .aload_n 0, 1),
  (102, .iload 4, 2),
  (104, .iload_n 2, 1),
  (105, .invokevirtual 136, 3),
  (108, .ifCond .eq 23, 3),
  (111, .aload_n 0, 1),
  (112, .iload_n 1, 1),
  (113, .iload 4, 2),
  (115, .aload_n 0, 1),
  (116, .iload 4, 2),
  (118, .invokevirtual 87, 3),
  (121, .invokevirtual 338, 3),
  (124, .ifCond .eq 7, 3),
  (127, .iconst 1, 1),
  (128, .goto 4, 3),
  (131, .iconst 0, 1),
  (132, .invokestatic 117, 3),
  (135, .iadd, 1),
  (136, .istore_n 3, 1),
  (137, .iinc 4 1, 3),
  (140, .goto (-108), 3),
  (143, .iload_n 3, 1),
  (144, .ireturn, 1)]
def mi_M_usesOf : mi_T := ("DataflowLabModel", ({ cls := "DataflowLabModel", name := "usesOf", desc := "(I)I" } : MethodName), prog_14_method_98_code, 6, (Option.some FieldType.int), [], tb_M_usesOf)
theorem mo_M_usesOf : mi_ok mi_M_usesOf := by
  show ∀ q ∈ tb_M_usesOf, decode prog_14_method_98_code q.1 = .ok q.2
  decide +kernel
theorem mw_M_usesOf : mi_w mi_M_usesOf 1 := ⟨tb_m 2141 (by decide +kernel) (by decide +kernel), tb_m 161 (by decide +kernel) rfl, ⟨by decide +kernel, by decide +kernel, by decide +kernel⟩, by decide +kernel⟩
theorem mv_M_usesOf : mi_wV mi_M_usesOf := ⟨tb_m 2139 (by decide +kernel) rfl, tb_m 2140 (by decide +kernel) rfl⟩
def tb_M_onlyDefinition : List (Nat × Instr × Nat) := [(0, .aload_n 0, 1),
  (1, .iload_n 1, 1),
  (2, .invokevirtual 332, 3),
  (5, .ifCond .ne 5, 3),
  (8, .iconst 0, 1),
  (9, .ireturn, 1),
  (10, .aload_n 0, 1),
  (11, .iload_n 1, 1),
  (12, .iconst 0, 1),
  (13, .invokevirtual 96, 3),
  (16, .iconst 2, 1),
  (17, .if_icmp .ne 7, 3),
  (20, .iconst 2, 1),
  (21, .goto 17, 3),
  (24, .aload_n 0, 1),
  (25, .iload_n 1, 1),
  (26, .iconst 0, 1),
  (27, .invokevirtual 96, 3),
  (30, .ifCond .ne 7, 3),
  (33, .iconst 0, 1),
  (34, .goto 4, 3),
  (37, .iconst 1, 1),
  (38, .istore_n 3, 1),
  (39, .iload_n 2, 1),
  (40, .ifCond .lt 8, 3),
  (43, .iload_n 2, 1),
  (44, .iload_n 3, 1),
  (45, .if_icmp .lt 10, 3),
  (48, .aload_n 0, 1),
  (49, .iconst 2, 1),
  (50, .putfield 55, 3),
  (53, .iconst 0, 1),
  (54, .ireturn, 1),
  (55, .aload_n 0, 1),
  (56, .iload_n 1, 1),
  (57, .iload_n 2, 1),
  (58, .ifCond .ne 7, 3),
  (61, .iconst 2, 1),
  (62, .goto 4, 3),
  (65, .iconst 4, 1),
  (66, .invokevirtual 96, 3),
  (69, .istore 4, 2),
  (71, .aload_n 0, 1),
  (72, .iload_n 1, 1),
  (73, .invokevirtual 121, 3),
  (76, .istore 5, 2),
  (78, .iconst (-1), 1),
  (79, .istore 6, 2),
  (81, .aload_n 0, 1),
  (82, .iload 5, 2),
  (84, .iload_n 1, 1),
  (85, .iload 4, 2),
  (87, .invokevirtual 341, 3),
  (90, .invokestatic 117, 3),
  (93, .istore 7, 2),
  (95, .iconst 0, 1),
  (96, .istore 8, 2),
  (98, .iload 8, 2),
  (100, .aload_n 0, 1),
  (101, .iconst 1, 1),
  (102, .invokevirtual 61, 3),
  (105, .if_icmp .ge 42, 3),
  (108, .aload_n 0, 1),
  (109, .iload 8, 2),
  (111, .iload 4, 2),
  (113, .invokevirtual 103, 3),
  (116, .ifCond .eq 25, 3),
  (119, .aload_n 0, 1),
  (120, .iload 8, 2),
  (122, .iload 5, 2),
  (124, .iload_n 1, 1),
  (125, .invokevirtual 338, 3),
  (128, .ifCond .ne 6, 3),
  (131, .goto 10, 3),
  (134, .iload 8, 2),
  (136, .istore 6, 2),
  (138, .iinc 7 1, 3),
  (141, .iinc 8 1, 3),
  (144, .goto (-46), 3),
  (147, .iload 7, 2),
  (149, .iconst 1, 1),
  (150, .if_icmp .ne 8, 3),
  (153, .iload 6, 2),
  (155, .goto 4, 3),
  (158, .iconst (-1), 1),
  (159, .ireturn, 1)]
def mi_M_onlyDefinition : mi_T := ("DataflowLabModel", ({ cls := "DataflowLabModel", name := "onlyDefinition", desc := "(II)I" } : MethodName), prog_14_method_99_code, 9, (Option.some FieldType.int), [], tb_M_onlyDefinition)
theorem mo_M_onlyDefinition : mi_ok mi_M_onlyDefinition := by
  show ∀ q ∈ tb_M_onlyDefinition, decode prog_14_method_99_code q.1 = .ok q.2
  decide +kernel
theorem mw_M_onlyDefinition : mi_w mi_M_onlyDefinition 2 := ⟨tb_m 2157 (by decide +kernel) (by decide +kernel), tb_m 161 (by decide +kernel) rfl, ⟨by decide +kernel, by decide +kernel, by decide +kernel⟩, by decide +kernel⟩
theorem mv_M_onlyDefinition : mi_wV mi_M_onlyDefinition := ⟨tb_m 2155 (by decide +kernel) rfl, tb_m 2156 (by decide +kernel) rfl⟩
def tb_M_isLiveIn : List (Nat × Instr × Nat) := [(0, .aload_n 0, 1),
  (1, .iload_n 1, 1),
  (2, .invokevirtual 329, 3),
  (5, .ifCond .eq 12, 3),
  (8, .aload_n 0, 1),
  (9, .iload_n 2, 1),
  (10, .iconst 2, 1),
  (11, .invokevirtual 335, 3),
  (14, .ifCond .ne 5, 3),
  (17, .iconst 0, 1),
  (18, .ireturn, 1),
  (19, .aload_n 0, 1),
  (20, .iload_n 1, 1),
  (21, .aload_n 0, 1),
  (22, .iload_n 1, 1),
  (23, .invokevirtual 84, 3),
  (26, .iload_n 2, 1),
  (27, .invokevirtual 149, 3),
  (30, .ireturn, 1)]
def mi_M_isLiveIn : mi_T := ("DataflowLabModel", ({ cls := "DataflowLabModel", name := "isLiveIn", desc := "(II)Z" } : MethodName), prog_14_method_100_code, 3, (Option.some FieldType.boolean), [], tb_M_isLiveIn)
theorem mo_M_isLiveIn : mi_ok mi_M_isLiveIn := by
  show ∀ q ∈ tb_M_isLiveIn, decode prog_14_method_100_code q.1 = .ok q.2
  decide +kernel
theorem mw_M_isLiveIn : mi_w mi_M_isLiveIn 2 := ⟨tb_m 2165 (by decide +kernel) (by decide +kernel), tb_m 161 (by decide +kernel) rfl, ⟨by decide +kernel, by decide +kernel, by decide +kernel⟩, by decide +kernel⟩
theorem mv_M_isLiveIn : mi_wV mi_M_isLiveIn := ⟨tb_m 2163 (by decide +kernel) rfl, tb_m 2164 (by decide +kernel) rfl⟩
def tb_M_isLiveOut : List (Nat × Instr × Nat) := [(0, .aload_n 0, 1),
  (1, .iload_n 1, 1),
  (2, .invokevirtual 329, 3),
  (5, .ifCond .eq 12, 3),
  (8, .aload_n 0, 1),
  (9, .iload_n 2, 1),
  (10, .iconst 2, 1),
  (11, .invokevirtual 335, 3),
  (14, .ifCond .ne 5, 3),
  (17, .iconst 0, 1),
  (18, .ireturn, 1),
  (19, .aload_n 0, 1),
  (20, .iload_n 1, 1),
  (21, .iload_n 2, 1),
  (22, .invokevirtual 146, 3),
  (25, .ireturn, 1)]
def mi_M_isLiveOut : mi_T := ("DataflowLabModel", ({ cls := "DataflowLabModel", name := "isLiveOut", desc := "(II)Z" } : MethodName), prog_14_method_101_code, 3, (Option.some FieldType.boolean), [], tb_M_isLiveOut)
theorem mo_M_isLiveOut : mi_ok mi_M_isLiveOut := by
  show ∀ q ∈ tb_M_isLiveOut, decode prog_14_method_101_code q.1 = .ok q.2
  decide +kernel
theorem mw_M_isLiveOut : mi_w mi_M_isLiveOut 2 := ⟨tb_m 2185 (by decide +kernel) (by decide +kernel), tb_m 161 (by decide +kernel) rfl, ⟨by decide +kernel, by decide +kernel, by decide +kernel⟩, by decide +kernel⟩
theorem mv_M_isLiveOut : mi_wV mi_M_isLiveOut := ⟨tb_m 2183 (by decide +kernel) rfl, tb_m 2184 (by decide +kernel) rfl⟩
def tb_M_liveBefore : List (Nat × Instr × Nat) := [(0, .aload_n 0, 1),
  (1, .iload_n 1, 1),
  (2, .invokevirtual 332, 3),
  (5, .ifCond .ne 5, 3),
  (8, .iconst 0, 1),
  (9, .ireturn, 1),
  (10, .aload_n 0, 1),
  (11, .aload_n 0, 1),
  (12, .iload_n 1, 1),
  (13, .invokevirtual 121, 3),
  (16, .iload_n 1, 1),
  (17, .invokevirtual 344, 3),
  (20, .ireturn, 1)]
def mi_M_liveBefore : mi_T := ("DataflowLabModel", ({ cls := "DataflowLabModel", name := "liveBefore", desc := "(I)I" } : MethodName), prog_14_method_102_code, 2, (Option.some FieldType.int), [], tb_M_liveBefore)
theorem mo_M_liveBefore : mi_ok mi_M_liveBefore := by
  show ∀ q ∈ tb_M_liveBefore, decode prog_14_method_102_code q.1 = .ok q.2
  decide +kernel
theorem mw_M_liveBefore : mi_w mi_M_liveBefore 1 := ⟨tb_m 2189 (by decide +kernel) (by decide +kernel), tb_m 161 (by decide +kernel) rfl, ⟨by decide +kernel, by decide +kernel, by decide +kernel⟩, by decide +kernel⟩
theorem mv_M_liveBefore : mi_wV mi_M_liveBefore := ⟨tb_m 2187 (by decide +kernel) rfl, tb_m 2188 (by decide +kernel) rfl⟩
def tb_M_isDead : List (Nat × Instr × Nat) := [(0, .aload_n 0, 1),
  (1, .iload_n 1, 1),
  (2, .invokevirtual 332, 3),
  (5, .ifCond .ne 5, 3),
  (8, .iconst 0, 1),
  (9, .ireturn, 1),
  (10, .aload_n 0, 1),
  (11, .iload_n 1, 1),
  (12, .invokevirtual 347, 3),
  (15, .ireturn, 1)]
def mi_M_isDead : mi_T := ("DataflowLabModel", ({ cls := "DataflowLabModel", name := "isDead", desc := "(I)Z" } : MethodName), prog_14_method_103_code, 2, (Option.some FieldType.boolean), [], tb_M_isDead)
theorem mo_M_isDead : mi_ok mi_M_isDead := by
  show ∀ q ∈ tb_M_isDead, decode prog_14_method_103_code q.1 = .ok q.2
  decide +kernel
theorem mw_M_isDead : mi_w mi_M_isDead 1 := ⟨tb_m 2197 (by decide +kernel) (by decide +kernel), tb_m 161 (by decide +kernel) rfl, ⟨by decide +kernel, by decide +kernel, by decide +kernel⟩, by decide +kernel⟩
theorem mv_M_isDead : mi_wV mi_M_isDead := ⟨tb_m 2195 (by decide +kernel) rfl, tb_m 2196 (by decide +kernel) rfl⟩
def tb_M_allDead : List (Nat × Instr × Nat) := [(0, .iconst 0, 1),
  (1, .istore_n 1, 1),
  (2, .iconst 0, 1),
  (3, .istore_n 2, 1),
  (4, .iload_n 2, 1),
  (5, .aload_n 0, 1),
  (6, .iconst 1, 1),
  (7, .invokevirtual 61, 3),
  (10, .if_icmp .ge 20, 3),
  (13, .iload_n 1, 1),
  (14, .aload_n 0, 1),
  (15, .iload_n 2, 1),
  (16, .invokevirtual 347, 3),
  (19, .invokestatic 117, 3),
  (22, .iadd, 1),
  (23, .istore_n 1, 1),
  (24, .iinc 2 1, 3),
  (27, .goto (-23), 3),
  (30, .iload_n 1, 1),
  (31, .ireturn, 1)]
def mi_M_allDead : mi_T := ("DataflowLabModel", ({ cls := "DataflowLabModel", name := "allDead", desc := "()I" } : MethodName), prog_14_method_104_code, 3, (Option.some FieldType.int), [], tb_M_allDead)
theorem mo_M_allDead : mi_ok mi_M_allDead := by
  show ∀ q ∈ tb_M_allDead, decode prog_14_method_104_code q.1 = .ok q.2
  decide +kernel
theorem mw_M_allDead : mi_w mi_M_allDead 0 := ⟨tb_m 2209 (by decide +kernel) (by decide +kernel), tb_m 161 (by decide +kernel) rfl, ⟨by decide +kernel, by decide +kernel, by decide +kernel⟩, by decide +kernel⟩
theorem mv_M_allDead : mi_wV mi_M_allDead := ⟨tb_m 2208 (by decide +kernel) rfl, tb_m 104 (by decide +kernel) rfl⟩
def tb_M_deadDefinitions : List (Nat × Instr × Nat) := [(0, .aload_n 0, 1),
  (1, .iconst 0, 1),
  (2, .putfield 55, 3),
  (5, .aload_n 0, 1),
  (6, .invokevirtual 350, 3),
  (9, .ireturn, 1)]
def mi_M_deadDefinitions : mi_T := ("DataflowLabModel", ({ cls := "DataflowLabModel", name := "deadDefinitions", desc := "()I" } : MethodName), prog_14_method_105_code, 1, (Option.some FieldType.int), [], tb_M_deadDefinitions)
theorem mo_M_deadDefinitions : mi_ok mi_M_deadDefinitions := by
  show ∀ q ∈ tb_M_deadDefinitions, decode prog_14_method_105_code q.1 = .ok q.2
  decide +kernel
theorem mw_M_deadDefinitions : mi_w mi_M_deadDefinitions 0 := ⟨tb_m 2205 (by decide +kernel) (by decide +kernel), tb_m 161 (by decide +kernel) rfl, ⟨by decide +kernel, by decide +kernel, by decide +kernel⟩, by decide +kernel⟩
theorem mv_M_deadDefinitions : mi_wV mi_M_deadDefinitions := ⟨tb_m 2203 (by decide +kernel) rfl, tb_m 2204 (by decide +kernel) rfl⟩
def tb_M_pressure : List (Nat × Instr × Nat) := [(0, .aload_n 0, 1),
  (1, .iconst 0, 1),
  (2, .putfield 55, 3),
  (5, .iconst 0, 1),
  (6, .istore_n 1, 1),
  (7, .iconst 0, 1),
  (8, .istore_n 2, 1),
  (9, .iload_n 2, 1),
  (10, .aload_n 0, 1),
  (11, .iconst 0, 1),
  (12, .invokevirtual 61, 3),
  (15, .if_icmp .ge 41, 3),
  (18, .aload_n 0, 1),
  (19, .iload_n 2, 1),
  (20, .invokevirtual 84, 3),
  (23, .istore_n 3, 1),
  (24, .iload_n 3, 1),
  (25, .aload_n 0, 1),
  (26, .iload_n 2, 1),
  (27, .invokevirtual 87, 3),
  (30, .if_icmp .gt 20, 3),
  (33, .iload_n 1, 1),
  (34, .aload_n 0, 1),
  (35, .iload_n 2, 1),
  (36, .iload_n 3, 1),
  (37, .invokevirtual 344, 3),
  (40, .invokestatic 199, 3),
  (43, .istore_n 1, 1),
  (44, .iinc 3 1, 3),
  (47, .goto (-23), 3),
  (50, .iinc 2 1, 3),
  (53, .goto (-44), 3),
  (56, .iload_n 1, 1),
  (57, .ireturn, 1)]
def mi_M_pressure : mi_T := ("DataflowLabModel", ({ cls := "DataflowLabModel", name := "pressure", desc := "()I" } : MethodName), prog_14_method_106_code, 4, (Option.some FieldType.int), [], tb_M_pressure)
theorem mo_M_pressure : mi_ok mi_M_pressure := by
  show ∀ q ∈ tb_M_pressure, decode prog_14_method_106_code q.1 = .ok q.2
  decide +kernel
theorem mw_M_pressure : mi_w mi_M_pressure 0 := ⟨tb_m 2213 (by decide +kernel) (by decide +kernel), tb_m 161 (by decide +kernel) rfl, ⟨by decide +kernel, by decide +kernel, by decide +kernel⟩, by decide +kernel⟩
theorem mv_M_pressure : mi_wV mi_M_pressure := ⟨tb_m 2211 (by decide +kernel) rfl, tb_m 2212 (by decide +kernel) rfl⟩
def tb_M_hinders : List (Nat × Instr × Nat) := [(0, .iconst 0, 1),
  (1, .istore_n 3, 1),
  (2, .iload_n 3, 1),
  (3, .aload_n 0, 1),
  (4, .iconst 1, 1),
  (5, .invokevirtual 61, 3),
  (8, .if_icmp .ge 59, 3),
  (11, .aload_n 0, 1),
  (12, .iload_n 3, 1),
  (13, .iload_n 1, 1),
  (14, .invokevirtual 103, 3),
  (17, .ifCond .eq 44, 3),
  (20, .aload_n 0, 1),
  (21, .iload_n 3, 1),
  (22, .iconst 0, 1),
  (23, .invokevirtual 96, 3),
  (26, .iconst 1, 1),
  (27, .if_icmp .ne 16, 3),
  (30, .aload_n 0, 1),
  (31, .iload_n 3, 1),
  (32, .iconst 2, 1),
  (33, .invokevirtual 96, 3),
  (36, .iload_n 2, 1),
  (37, .if_icmp .ne 6, 3),
  (40, .goto 21, 3),
  (43, .aload_n 0, 1),
  (44, .aload_n 0, 1),
  (45, .iload_n 3, 1),
  (46, .invokevirtual 121, 3),
  (49, .iload_n 3, 1),
  (50, .iconst 1, 1),
  (51, .iadd, 1),
  (52, .iload_n 2, 1),
  (53, .invokevirtual 149, 3),
  (56, .ifCond .eq 5, 3),
  (59, .iconst 1, 1),
  (60, .ireturn, 1),
  (61, .iinc 3 1, 3),
  (64, .goto (-62), 3),
  (67, .iconst 0, 1),
  (68, .ireturn, 1)]
def mi_M_hinders : mi_T := ("DataflowLabModel", ({ cls := "DataflowLabModel", name := "hinders", desc := "(II)Z" } : MethodName), prog_14_method_107_code, 4, (Option.some FieldType.boolean), [], tb_M_hinders)
theorem mo_M_hinders : mi_ok mi_M_hinders := by
  show ∀ q ∈ tb_M_hinders, decode prog_14_method_107_code q.1 = .ok q.2
  decide +kernel
theorem mw_M_hinders : mi_w mi_M_hinders 2 := ⟨tb_m 2222 (by decide +kernel) (by decide +kernel), tb_m 161 (by decide +kernel) rfl, ⟨by decide +kernel, by decide +kernel, by decide +kernel⟩, by decide +kernel⟩
theorem mv_M_hinders : mi_wV mi_M_hinders := ⟨tb_m 2221 (by decide +kernel) rfl, tb_m 105 (by decide +kernel) rfl⟩
def tb_M_interfere : List (Nat × Instr × Nat) := [(0, .aload_n 0, 1),
  (1, .iconst 0, 1),
  (2, .putfield 55, 3),
  (5, .aload_n 0, 1),
  (6, .iload_n 1, 1),
  (7, .iconst 1, 1),
  (8, .invokevirtual 335, 3),
  (11, .ifCond .eq 12, 3),
  (14, .aload_n 0, 1),
  (15, .iload_n 2, 1),
  (16, .iconst 1, 1),
  (17, .invokevirtual 335, 3),
  (20, .ifCond .ne 5, 3),
  (23, .iconst 0, 1),
  (24, .ireturn, 1),
  (25, .iload_n 1, 1),
  (26, .iload_n 2, 1),
  (27, .if_icmp .eq 25, 3),
  (30, .aload_n 0, 1),
  (31, .iload_n 1, 1),
  (32, .iload_n 2, 1),
  (33, .invokevirtual 353, 3),
  (36, .ifCond .ne 12, 3),
  (39, .aload_n 0, 1),
  (40, .iload_n 2, 1),
  (41, .iload_n 1, 1),
  (42, .invokevirtual 353, 3),
  (45, .ifCond .eq 7, 3),
  (48, .iconst 1, 1),
  (49, .goto 4, 3),
  (52, .iconst 0, 1),
  (53, .ireturn, 1)]
def mi_M_interfere : mi_T := ("DataflowLabModel", ({ cls := "DataflowLabModel", name := "interfere", desc := "(II)Z" } : MethodName), prog_14_method_108_code, 3, (Option.some FieldType.boolean), [], tb_M_interfere)
theorem mo_M_interfere : mi_ok mi_M_interfere := by
  show ∀ q ∈ tb_M_interfere, decode prog_14_method_108_code q.1 = .ok q.2
  decide +kernel
theorem mw_M_interfere : mi_w mi_M_interfere 2 := ⟨tb_m 2218 (by decide +kernel) (by decide +kernel), tb_m 161 (by decide +kernel) rfl, ⟨by decide +kernel, by decide +kernel, by decide +kernel⟩, by decide +kernel⟩
theorem mv_M_interfere : mi_wV mi_M_interfere := ⟨tb_m 2216 (by decide +kernel) rfl, tb_m 2217 (by decide +kernel) rfl⟩
def tb_M_expressionCount : List (Nat × Instr × Nat) := [(0, .aload_n 0, 1),
  (1, .iconst 0, 1),
  (2, .putfield 55, 3),
  (5, .iconst 0, 1),
  (6, .istore_n 1, 1),
  (7, .iconst 0, 1),
  (8, .istore_n 2, 1),
  (9, .iload_n 2, 1),
  (10, .aload_n 0, 1),
  (11, .iconst 1, 1),
  (12, .invokevirtual 61, 3),
  (15, .if_icmp .ge 20, 3),
  (18, .iload_n 1, 1),
  (19, .aload_n 0, 1),
  (20, .iload_n 2, 1),
  (21, .invokevirtual 356, 3),
  (24, .invokestatic 117, 3),
  (27, .iadd, 1),
  (28, .istore_n 1, 1),
  (29, .iinc 2 1, 3),
  (32, .goto (-23), 3),
  (35, .iload_n 1, 1),
  (36, .ireturn, 1)]
def mi_M_expressionCount : mi_T := ("DataflowLabModel", ({ cls := "DataflowLabModel", name := "expressionCount", desc := "()I" } : MethodName), prog_14_method_109_code, 3, (Option.some FieldType.int), [], tb_M_expressionCount)
theorem mo_M_expressionCount : mi_ok mi_M_expressionCount := by
  show ∀ q ∈ tb_M_expressionCount, decode prog_14_method_109_code q.1 = .ok q.2
  decide +kernel
theorem mw_M_expressionCount : mi_w mi_M_expressionCount 0 := ⟨tb_m 2226 (by decide +kernel) (by decide +kernel), tb_m 161 (by decide +kernel) rfl, ⟨by decide +kernel, by decide +kernel, by decide +kernel⟩, by decide +kernel⟩
theorem mv_M_expressionCount : mi_wV mi_M_expressionCount := ⟨tb_m 2224 (by decide +kernel) rfl, tb_m 2225 (by decide +kernel) rfl⟩
def tb_M_isRedundant : List (Nat × Instr × Nat) := [(0, .aload_n 0, 1),
  (1, .iload_n 1, 1),
  (2, .invokevirtual 332, 3),
  (5, .ifCond .ne 5, 3),
  (8, .iconst 0, 1),
  (9, .ireturn, 1),
  (10, .aload_n 0, 1),
  (11, .iload_n 1, 1),
  (12, .invokevirtual 359, 3),
  (15, .ireturn, 1)]
def mi_M_isRedundant : mi_T := ("DataflowLabModel", ({ cls := "DataflowLabModel", name := "isRedundant", desc := "(I)Z" } : MethodName), prog_14_method_110_code, 2, (Option.some FieldType.boolean), [], tb_M_isRedundant)
theorem mo_M_isRedundant : mi_ok mi_M_isRedundant := by
  show ∀ q ∈ tb_M_isRedundant, decode prog_14_method_110_code q.1 = .ok q.2
  decide +kernel
theorem mw_M_isRedundant : mi_w mi_M_isRedundant 1 := ⟨tb_m 2238 (by decide +kernel) (by decide +kernel), tb_m 161 (by decide +kernel) rfl, ⟨by decide +kernel, by decide +kernel, by decide +kernel⟩, by decide +kernel⟩
theorem mv_M_isRedundant : mi_wV mi_M_isRedundant := ⟨tb_m 2236 (by decide +kernel) rfl, tb_m 2237 (by decide +kernel) rfl⟩
def tb_M_redundantCount : List (Nat × Instr × Nat) := [(0, .aload_n 0, 1),
  (1, .iconst 0, 1),
  (2, .putfield 55, 3),
  (5, .iconst 0, 1),
  (6, .istore_n 1, 1),
  (7, .iconst 0, 1),
  (8, .istore_n 2, 1),
  (9, .iload_n 2, 1),
  (10, .aload_n 0, 1),
  (11, .iconst 1, 1),
  (12, .invokevirtual 61, 3),
  (15, .if_icmp .ge 20, 3),
  (18, .iload_n 1, 1),
  (19, .aload_n 0, 1),
  (20, .iload_n 2, 1),
  (21, .invokevirtual 359, 3),
  (24, .invokestatic 117, 3),
  (27, .iadd, 1),
  (28, .istore_n 1, 1),
  (29, .iinc 2 1, 3),
  (32, .goto (-23), 3),
  (35, .iload_n 1, 1),
  (36, .ireturn, 1)]
def mi_M_redundantCount : mi_T := ("DataflowLabModel", ({ cls := "DataflowLabModel", name := "redundantCount", desc := "()I" } : MethodName), prog_14_method_111_code, 3, (Option.some FieldType.int), [], tb_M_redundantCount)
theorem mo_M_redundantCount : mi_ok mi_M_redundantCount := by
  show ∀ q ∈ tb_M_redundantCount, decode prog_14_method_111_code q.1 = .ok q.2
  decide +kernel
theorem mw_M_redundantCount : mi_w mi_M_redundantCount 0 := ⟨tb_m 2258 (by decide +kernel) (by decide +kernel), tb_m 161 (by decide +kernel) rfl, ⟨by decide +kernel, by decide +kernel, by decide +kernel⟩, by decide +kernel⟩
theorem mv_M_redundantCount : mi_wV mi_M_redundantCount := ⟨tb_m 2256 (by decide +kernel) rfl, tb_m 2257 (by decide +kernel) rfl⟩
def tb_M_availableAt : List (Nat × Instr × Nat) := [(0, .aload_n 0, 1),
  (1, .iload_n 1, 1),
  (2, .invokevirtual 329, 3),
  (5, .ifCond .ne 5, 3),
  (8, .iconst 0, 1),
  (9, .ireturn, 1),
  (10, .iconst 0, 1),
  (11, .istore_n 2, 1),
  (12, .iconst 0, 1),
  (13, .istore_n 3, 1),
  (14, .iload_n 3, 1),
  (15, .aload_n 0, 1),
  (16, .iconst 1, 1),
  (17, .invokevirtual 61, 3),
  (20, .if_icmp .ge 42, 3),
  (23, .iload_n 2, 1),
  (24, .aload_n 0, 1),
  (25, .iload_n 3, 1),
  (26, .invokevirtual 356, 3),
  (29, .ifCond .eq 21, 3),
  (32, .aload_n 0, 1),
  (33, .iload_n 3, 1),
  (34, .iload_n 1, 1),
  (35, .aload_n 0, 1),
  (36, .iload_n 1, 1),
  (37, .invokevirtual 84, 3),
  (40, .invokevirtual 166, 3),
  (43, .ifCond .eq 7, 3),
  (46, .iconst 1, 1),
  (47, .goto 4, 3),
  (50, .iconst 0, 1),
  (51, .invokestatic 117, 3),
  (54, .iadd, 1),
  (55, .istore_n 2, 1),
  (56, .iinc 3 1, 3),
  (59, .goto (-45), 3),
  (62, .iload_n 2, 1),
  (63, .ireturn, 1)]
def mi_M_availableAt : mi_T := ("DataflowLabModel", ({ cls := "DataflowLabModel", name := "availableAt", desc := "(I)I" } : MethodName), prog_14_method_112_code, 4, (Option.some FieldType.int), [], tb_M_availableAt)
theorem mo_M_availableAt : mi_ok mi_M_availableAt := by
  show ∀ q ∈ tb_M_availableAt, decode prog_14_method_112_code q.1 = .ok q.2
  decide +kernel
theorem mw_M_availableAt : mi_w mi_M_availableAt 1 := ⟨tb_m 2262 (by decide +kernel) (by decide +kernel), tb_m 161 (by decide +kernel) rfl, ⟨by decide +kernel, by decide +kernel, by decide +kernel⟩, by decide +kernel⟩
theorem mv_M_availableAt : mi_wV mi_M_availableAt := ⟨tb_m 2260 (by decide +kernel) rfl, tb_m 2261 (by decide +kernel) rfl⟩
def tb_M_dominates : List (Nat × Instr × Nat) := [(0, .aload_n 0, 1),
  (1, .iload_n 1, 1),
  (2, .invokevirtual 329, 3),
  (5, .ifCond .eq 11, 3),
  (8, .aload_n 0, 1),
  (9, .iload_n 2, 1),
  (10, .invokevirtual 329, 3),
  (13, .ifCond .ne 5, 3),
  (16, .iconst 0, 1),
  (17, .ireturn, 1),
  (18, .aload_n 0, 1),
  (19, .iload_n 1, 1),
  (20, .iload_n 2, 1),
  (21, .invokevirtual 169, 3),
  (24, .ireturn, 1)]
def mi_M_dominates : mi_T := ("DataflowLabModel", ({ cls := "DataflowLabModel", name := "dominates", desc := "(II)Z" } : MethodName), prog_14_method_113_code, 3, (Option.some FieldType.boolean), [], tb_M_dominates)
theorem mo_M_dominates : mi_ok mi_M_dominates := by
  show ∀ q ∈ tb_M_dominates, decode prog_14_method_113_code q.1 = .ok q.2
  decide +kernel
theorem mw_M_dominates : mi_w mi_M_dominates 2 := ⟨tb_m 2266 (by decide +kernel) (by decide +kernel), tb_m 161 (by decide +kernel) rfl, ⟨by decide +kernel, by decide +kernel, by decide +kernel⟩, by decide +kernel⟩
theorem mv_M_dominates : mi_wV mi_M_dominates := ⟨tb_m 2264 (by decide +kernel) rfl, tb_m 2265 (by decide +kernel) rfl⟩
def tb_M_nearestGovernor : List (Nat × Instr × Nat) := [(0, .iconst (-1), 1),
  (1, .istore 4, 2),
  (3, .iconst 0, 1),
  (4, .istore 5, 2),
  (6, .iload 5, 2),
  (8, .aload_n 0, 1),
  (9, .iconst 0, 1),
  (10, .invokevirtual 61, 3),
  (13, .if_icmp .ge 63, 3),
  (16, .iload 5, 2),
  (18, .iload_n 3, 1),
  (19, .if_icmp .eq 51, 3),
  (22, .aload_n 0, 1),
  (23, .iload 5, 2),
  (25, .iload_n 1, 1),
  (26, .invokevirtual 169, 3),
  (29, .ifCond .eq 41, 3),
  (32, .aload_n 0, 1),
  (33, .iload 5, 2),
  (35, .iload_n 2, 1),
  (36, .invokevirtual 169, 3),
  (39, .ifCond .ne 6, 3),
  (42, .goto 28, 3),
  (45, .iload 4, 2),
  (47, .iconst (-1), 1),
  (48, .if_icmp .eq 18, 3),
  (51, .aload_n 0, 1),
  (52, .iload 5, 2),
  (54, .invokevirtual 362, 3),
  (57, .aload_n 0, 1),
  (58, .iload 4, 2),
  (60, .invokevirtual 362, 3),
  (63, .if_icmp .le 7, 3),
  (66, .iload 5, 2),
  (68, .istore 4, 2),
  (70, .iinc 5 1, 3),
  (73, .goto (-67), 3),
  (76, .iload 4, 2),
  (78, .ireturn, 1)]
def mi_M_nearestGovernor : mi_T := ("DataflowLabModel", ({ cls := "DataflowLabModel", name := "nearestGovernor", desc := "(III)I" } : MethodName), prog_14_method_114_code, 6, (Option.some FieldType.int), [], tb_M_nearestGovernor)
theorem mo_M_nearestGovernor : mi_ok mi_M_nearestGovernor := by
  show ∀ q ∈ tb_M_nearestGovernor, decode prog_14_method_114_code q.1 = .ok q.2
  decide +kernel
theorem mw_M_nearestGovernor : mi_w mi_M_nearestGovernor 3 := ⟨tb_m 2278 (by decide +kernel) (by decide +kernel), tb_m 161 (by decide +kernel) rfl, ⟨by decide +kernel, by decide +kernel, by decide +kernel⟩, by decide +kernel⟩
theorem mv_M_nearestGovernor : mi_wV mi_M_nearestGovernor := ⟨tb_m 2277 (by decide +kernel) rfl, tb_m 113 (by decide +kernel) rfl⟩
def tb_M_immediateDominator : List (Nat × Instr × Nat) := [(0, .aload_n 0, 1),
  (1, .iload_n 1, 1),
  (2, .invokevirtual 329, 3),
  (5, .ifCond .ne 5, 3),
  (8, .iconst 0, 1),
  (9, .ireturn, 1),
  (10, .aload_n 0, 1),
  (11, .iload_n 1, 1),
  (12, .iload_n 1, 1),
  (13, .iload_n 1, 1),
  (14, .invokevirtual 365, 3),
  (17, .ireturn, 1)]
def mi_M_immediateDominator : mi_T := ("DataflowLabModel", ({ cls := "DataflowLabModel", name := "immediateDominator", desc := "(I)I" } : MethodName), prog_14_method_115_code, 2, (Option.some FieldType.int), [], tb_M_immediateDominator)
theorem mo_M_immediateDominator : mi_ok mi_M_immediateDominator := by
  show ∀ q ∈ tb_M_immediateDominator, decode prog_14_method_115_code q.1 = .ok q.2
  decide +kernel
theorem mw_M_immediateDominator : mi_w mi_M_immediateDominator 1 := ⟨tb_m 2274 (by decide +kernel) (by decide +kernel), tb_m 161 (by decide +kernel) rfl, ⟨by decide +kernel, by decide +kernel, by decide +kernel⟩, by decide +kernel⟩
theorem mv_M_immediateDominator : mi_wV mi_M_immediateDominator := ⟨tb_m 2272 (by decide +kernel) rfl, tb_m 2273 (by decide +kernel) rfl⟩
def tb_M_commonDominator : List (Nat × Instr × Nat) := [(0, .aload_n 0, 1),
  (1, .iload_n 1, 1),
  (2, .invokevirtual 329, 3),
  (5, .ifCond .eq 11, 3),
  (8, .aload_n 0, 1),
  (9, .iload_n 2, 1),
  (10, .invokevirtual 329, 3),
  (13, .ifCond .ne 5, 3),
  (16, .iconst 0, 1),
  (17, .ireturn, 1),
  (18, .aload_n 0, 1),
  (19, .iload_n 1, 1),
  (20, .iload_n 2, 1),
  (21, .iconst (-1), 1),
  (22, .invokevirtual 365, 3),
  (25, .ireturn, 1)]
def mi_M_commonDominator : mi_T := ("DataflowLabModel", ({ cls := "DataflowLabModel", name := "commonDominator", desc := "(II)I" } : MethodName), prog_14_method_116_code, 3, (Option.some FieldType.int), [], tb_M_commonDominator)
theorem mo_M_commonDominator : mi_ok mi_M_commonDominator := by
  show ∀ q ∈ tb_M_commonDominator, decode prog_14_method_116_code q.1 = .ok q.2
  decide +kernel
theorem mw_M_commonDominator : mi_w mi_M_commonDominator 2 := ⟨tb_m 2286 (by decide +kernel) (by decide +kernel), tb_m 161 (by decide +kernel) rfl, ⟨by decide +kernel, by decide +kernel, by decide +kernel⟩, by decide +kernel⟩
theorem mv_M_commonDominator : mi_wV mi_M_commonDominator := ⟨tb_m 2284 (by decide +kernel) rfl, tb_m 2285 (by decide +kernel) rfl⟩
def tb_M_backEdges : List (Nat × Instr × Nat) := [(0, .aload_n 0, 1),
  (1, .iconst 0, 1),
  (2, .putfield 55, 3),
  (5, .iconst 0, 1),
  (6, .istore_n 1, 1),
  (7, .iconst 0, 1),
  (8, .istore_n 2, 1),
  (9, .iload_n 2, 1),
  (10, .aload_n 0, 1),
  (11, .iconst 0, 1),
  (12, .invokevirtual 61, 3),
  (15, .if_icmp .ge 38, 3),
  (18, .iconst 0, 1),
  (19, .istore_n 3, 1),
  (20, .iload_n 3, 1),
  (21, .aload_n 0, 1),
  (22, .iconst 0, 1),
  (23, .invokevirtual 61, 3),
  (26, .if_icmp .ge 21, 3),
  (29, .iload_n 1, 1),
  (30, .aload_n 0, 1),
  (31, .iload_n 2, 1),
  (32, .iload_n 3, 1),
  (33, .invokevirtual 175, 3),
  (36, .invokestatic 117, 3),
  (39, .iadd, 1),
  (40, .istore_n 1, 1),
  (41, .iinc 3 1, 3),
  (44, .goto (-24), 3),
  (47, .iinc 2 1, 3),
  (50, .goto (-41), 3),
  (53, .iload_n 1, 1),
  (54, .ireturn, 1)]
def mi_M_backEdges : mi_T := ("DataflowLabModel", ({ cls := "DataflowLabModel", name := "backEdges", desc := "()I" } : MethodName), prog_14_method_117_code, 4, (Option.some FieldType.int), [], tb_M_backEdges)
theorem mo_M_backEdges : mi_ok mi_M_backEdges := by
  show ∀ q ∈ tb_M_backEdges, decode prog_14_method_117_code q.1 = .ok q.2
  decide +kernel
theorem mw_M_backEdges : mi_w mi_M_backEdges 0 := ⟨tb_m 2290 (by decide +kernel) (by decide +kernel), tb_m 161 (by decide +kernel) rfl, ⟨by decide +kernel, by decide +kernel, by decide +kernel⟩, by decide +kernel⟩
theorem mv_M_backEdges : mi_wV mi_M_backEdges := ⟨tb_m 2288 (by decide +kernel) rfl, tb_m 2289 (by decide +kernel) rfl⟩
def tb_M_loopSize : List (Nat × Instr × Nat) := [(0, .aload_n 0, 1),
  (1, .iload_n 1, 1),
  (2, .invokevirtual 329, 3),
  (5, .ifCond .ne 5, 3),
  (8, .iconst 0, 1),
  (9, .ireturn, 1),
  (10, .iconst 0, 1),
  (11, .istore_n 2, 1),
  (12, .iconst 0, 1),
  (13, .istore_n 3, 1),
  (14, .iload_n 3, 1),
  (15, .aload_n 0, 1),
  (16, .iconst 0, 1),
  (17, .invokevirtual 61, 3),
  (20, .if_icmp .ge 21, 3),
  (23, .iload_n 2, 1),
  (24, .aload_n 0, 1),
  (25, .iload_n 3, 1),
  (26, .iload_n 1, 1),
  (27, .invokevirtual 368, 3),
  (30, .invokestatic 117, 3),
  (33, .iadd, 1),
  (34, .istore_n 2, 1),
  (35, .iinc 3 1, 3),
  (38, .goto (-24), 3),
  (41, .iload_n 2, 1),
  (42, .ireturn, 1)]
def mi_M_loopSize : mi_T := ("DataflowLabModel", ({ cls := "DataflowLabModel", name := "loopSize", desc := "(I)I" } : MethodName), prog_14_method_118_code, 4, (Option.some FieldType.int), [], tb_M_loopSize)
theorem mo_M_loopSize : mi_ok mi_M_loopSize := by
  show ∀ q ∈ tb_M_loopSize, decode prog_14_method_118_code q.1 = .ok q.2
  decide +kernel
theorem mw_M_loopSize : mi_w mi_M_loopSize 1 := ⟨tb_m 2298 (by decide +kernel) (by decide +kernel), tb_m 161 (by decide +kernel) rfl, ⟨by decide +kernel, by decide +kernel, by decide +kernel⟩, by decide +kernel⟩
theorem mv_M_loopSize : mi_wV mi_M_loopSize := ⟨tb_m 2296 (by decide +kernel) rfl, tb_m 2297 (by decide +kernel) rfl⟩
def tb_M_loopDepth : List (Nat × Instr × Nat) := [(0, .aload_n 0, 1),
  (1, .iload_n 1, 1),
  (2, .invokevirtual 329, 3),
  (5, .ifCond .ne 5, 3),
  (8, .iconst 0, 1),
  (9, .ireturn, 1),
  (10, .iconst 0, 1),
  (11, .istore_n 2, 1),
  (12, .iconst 0, 1),
  (13, .istore_n 3, 1),
  (14, .iload_n 3, 1),
  (15, .aload_n 0, 1),
  (16, .iconst 0, 1),
  (17, .invokevirtual 61, 3),
  (20, .if_icmp .ge 21, 3),
  (23, .iload_n 2, 1),
  (24, .aload_n 0, 1),
  (25, .iload_n 1, 1),
  (26, .iload_n 3, 1),
  (27, .invokevirtual 368, 3),
  (30, .invokestatic 117, 3),
  (33, .iadd, 1),
  (34, .istore_n 2, 1),
  (35, .iinc 3 1, 3),
  (38, .goto (-24), 3),
  (41, .iload_n 2, 1),
  (42, .ireturn, 1)]
def mi_M_loopDepth : mi_T := ("DataflowLabModel", ({ cls := "DataflowLabModel", name := "loopDepth", desc := "(I)I" } : MethodName), prog_14_method_119_code, 4, (Option.some FieldType.int), [], tb_M_loopDepth)
theorem mo_M_loopDepth : mi_ok mi_M_loopDepth := by
  show ∀ q ∈ tb_M_loopDepth, decode prog_14_method_119_code q.1 = .ok q.2
  decide +kernel
theorem mw_M_loopDepth : mi_w mi_M_loopDepth 1 := ⟨tb_m 2310 (by decide +kernel) (by decide +kernel), tb_m 161 (by decide +kernel) rfl, ⟨by decide +kernel, by decide +kernel, by decide +kernel⟩, by decide +kernel⟩
theorem mv_M_loopDepth : mi_wV mi_M_loopDepth := ⟨tb_m 2308 (by decide +kernel) rfl, tb_m 2309 (by decide +kernel) rfl⟩
def tb_M_constantAt : List (Nat × Instr × Nat) := [(0, .aload_n 0, 1),
  (1, .iload_n 1, 1),
  (2, .invokevirtual 329, 3),
  (5, .ifCond .eq 12, 3),
  (8, .aload_n 0, 1),
  (9, .iload_n 2, 1),
  (10, .iconst 2, 1),
  (11, .invokevirtual 335, 3),
  (14, .ifCond .ne 5, 3),
  (17, .iconst 0, 1),
  (18, .ireturn, 1),
  (19, .aload_n 0, 1),
  (20, .iload_n 1, 1),
  (21, .aload_n 0, 1),
  (22, .iload_n 1, 1),
  (23, .invokevirtual 84, 3),
  (26, .iload_n 2, 1),
  (27, .invokevirtual 371, 3),
  (30, .ireturn, 1)]
def mi_M_constantAt : mi_T := ("DataflowLabModel", ({ cls := "DataflowLabModel", name := "constantAt", desc := "(II)I" } : MethodName), prog_14_method_120_code, 3, (Option.some FieldType.int), [], tb_M_constantAt)
theorem mo_M_constantAt : mi_ok mi_M_constantAt := by
  show ∀ q ∈ tb_M_constantAt, decode prog_14_method_120_code q.1 = .ok q.2
  decide +kernel
theorem mw_M_constantAt : mi_w mi_M_constantAt 2 := ⟨tb_m 2314 (by decide +kernel) (by decide +kernel), tb_m 161 (by decide +kernel) rfl, ⟨by decide +kernel, by decide +kernel, by decide +kernel⟩, by decide +kernel⟩
theorem mv_M_constantAt : mi_wV mi_M_constantAt := ⟨tb_m 2312 (by decide +kernel) rfl, tb_m 2313 (by decide +kernel) rfl⟩
def tb_M_constantGiven : List (Nat × Instr × Nat) := [(0, .aload_n 0, 1),
  (1, .iload_n 1, 1),
  (2, .invokevirtual 99, 3),
  (5, .ifCond .eq 24, 3),
  (8, .aload_n 0, 1),
  (9, .aload_n 0, 1),
  (10, .iload_n 1, 1),
  (11, .invokevirtual 121, 3),
  (14, .iload_n 1, 1),
  (15, .iconst 1, 1),
  (16, .iadd, 1),
  (17, .aload_n 0, 1),
  (18, .iload_n 1, 1),
  (19, .iconst 1, 1),
  (20, .invokevirtual 96, 3),
  (23, .invokevirtual 371, 3),
  (26, .goto 4, 3),
  (29, .iconst (-1), 1),
  (30, .ireturn, 1)]
def mi_M_constantGiven : mi_T := ("DataflowLabModel", ({ cls := "DataflowLabModel", name := "constantGiven", desc := "(I)I" } : MethodName), prog_14_method_121_code, 2, (Option.some FieldType.int), [], tb_M_constantGiven)
theorem mo_M_constantGiven : mi_ok mi_M_constantGiven := by
  show ∀ q ∈ tb_M_constantGiven, decode prog_14_method_121_code q.1 = .ok q.2
  decide +kernel
theorem mw_M_constantGiven : mi_w mi_M_constantGiven 1 := ⟨tb_m 2349 (by decide +kernel) (by decide +kernel), tb_m 161 (by decide +kernel) rfl, ⟨by decide +kernel, by decide +kernel, by decide +kernel⟩, by decide +kernel⟩
theorem mv_M_constantGiven : mi_wV mi_M_constantGiven := ⟨tb_m 2348 (by decide +kernel) rfl, tb_m 124 (by decide +kernel) rfl⟩
def tb_M_constantOf : List (Nat × Instr × Nat) := [(0, .aload_n 0, 1),
  (1, .iload_n 1, 1),
  (2, .invokevirtual 332, 3),
  (5, .ifCond .ne 5, 3),
  (8, .iconst 0, 1),
  (9, .ireturn, 1),
  (10, .aload_n 0, 1),
  (11, .iload_n 1, 1),
  (12, .invokevirtual 374, 3),
  (15, .ireturn, 1)]
def mi_M_constantOf : mi_T := ("DataflowLabModel", ({ cls := "DataflowLabModel", name := "constantOf", desc := "(I)I" } : MethodName), prog_14_method_122_code, 2, (Option.some FieldType.int), [], tb_M_constantOf)
theorem mo_M_constantOf : mi_ok mi_M_constantOf := by
  show ∀ q ∈ tb_M_constantOf, decode prog_14_method_122_code q.1 = .ok q.2
  decide +kernel
theorem mw_M_constantOf : mi_w mi_M_constantOf 1 := ⟨tb_m 2345 (by decide +kernel) (by decide +kernel), tb_m 161 (by decide +kernel) rfl, ⟨by decide +kernel, by decide +kernel, by decide +kernel⟩, by decide +kernel⟩
theorem mv_M_constantOf : mi_wV mi_M_constantOf := ⟨tb_m 2343 (by decide +kernel) rfl, tb_m 2344 (by decide +kernel) rfl⟩
def tb_M_decidedBranches : List (Nat × Instr × Nat) := [(0, .aload_n 0, 1),
  (1, .iconst 0, 1),
  (2, .putfield 55, 3),
  (5, .iconst 0, 1),
  (6, .istore_n 1, 1),
  (7, .iconst 0, 1),
  (8, .istore_n 2, 1),
  (9, .iload_n 2, 1),
  (10, .aload_n 0, 1),
  (11, .iconst 0, 1),
  (12, .invokevirtual 61, 3),
  (15, .if_icmp .ge 50, 3),
  (18, .iload_n 1, 1),
  (19, .aload_n 0, 1),
  (20, .iload_n 2, 1),
  (21, .iconst 1, 1),
  (22, .invokevirtual 80, 3),
  (25, .iconst 2, 1),
  (26, .if_icmp .ne 27, 3),
  (29, .aload_n 0, 1),
  (30, .iload_n 2, 1),
  (31, .aload_n 0, 1),
  (32, .iload_n 2, 1),
  (33, .invokevirtual 87, 3),
  (36, .aload_n 0, 1),
  (37, .iload_n 2, 1),
  (38, .iconst 2, 1),
  (39, .invokevirtual 80, 3),
  (42, .invokevirtual 371, 3),
  (45, .iconst (-1), 1),
  (46, .if_icmp .eq 7, 3),
  (49, .iconst 1, 1),
  (50, .goto 4, 3),
  (53, .iconst 0, 1),
  (54, .invokestatic 117, 3),
  (57, .iadd, 1),
  (58, .istore_n 1, 1),
  (59, .iinc 2 1, 3),
  (62, .goto (-53), 3),
  (65, .iload_n 1, 1),
  (66, .ireturn, 1)]
def mi_M_decidedBranches : mi_T := ("DataflowLabModel", ({ cls := "DataflowLabModel", name := "decidedBranches", desc := "()I" } : MethodName), prog_14_method_123_code, 3, (Option.some FieldType.int), [], tb_M_decidedBranches)
theorem mo_M_decidedBranches : mi_ok mi_M_decidedBranches := by
  show ∀ q ∈ tb_M_decidedBranches, decode prog_14_method_123_code q.1 = .ok q.2
  decide +kernel
theorem mw_M_decidedBranches : mi_w mi_M_decidedBranches 0 := ⟨tb_m 2353 (by decide +kernel) (by decide +kernel), tb_m 161 (by decide +kernel) rfl, ⟨by decide +kernel, by decide +kernel, by decide +kernel⟩, by decide +kernel⟩
theorem mv_M_decidedBranches : mi_wV mi_M_decidedBranches := ⟨tb_m 2351 (by decide +kernel) rfl, tb_m 2352 (by decide +kernel) rfl⟩
def tb_M_isCount : List (Nat × Instr × Nat) := [(0, .iload_n 1, 1),
  (1, .iload_n 2, 1),
  (2, .sipush 1000, 3),
  (5, .invokestatic 124, 3),
  (8, .ifCond .eq 5, 3),
  (11, .iconst 1, 1),
  (12, .ireturn, 1),
  (13, .aload_n 0, 1),
  (14, .iload_n 3, 1),
  (15, .putfield 55, 3),
  (18, .iconst 0, 1),
  (19, .ireturn, 1)]
def mi_M_isCount : mi_T := ("DataflowLabModel", ({ cls := "DataflowLabModel", name := "isCount", desc := "(III)Z" } : MethodName), prog_14_method_124_code, 4, (Option.some FieldType.boolean), [], tb_M_isCount)
theorem mo_M_isCount : mi_ok mi_M_isCount := by
  show ∀ q ∈ tb_M_isCount, decode prog_14_method_124_code q.1 = .ok q.2
  decide +kernel
theorem mw_M_isCount : mi_w mi_M_isCount 3 := ⟨tb_m 2361 (by decide +kernel) (by decide +kernel), tb_m 161 (by decide +kernel) rfl, ⟨by decide +kernel, by decide +kernel, by decide +kernel⟩, by decide +kernel⟩
theorem mv_M_isCount : mi_wV mi_M_isCount := ⟨tb_m 2360 (by decide +kernel) rfl, tb_m 125 (by decide +kernel) rfl⟩
def tb_M_runSteps : List (Nat × Instr × Nat) := [(0, .aload_n 0, 1),
  (1, .iconst 0, 1),
  (2, .putfield 55, 3),
  (5, .aload_n 0, 1),
  (6, .iload_n 1, 1),
  (7, .iconst 1, 1),
  (8, .iconst 1, 1),
  (9, .invokevirtual 377, 3),
  (12, .ifCond .ne 5, 3),
  (15, .iconst 0, 1),
  (16, .ireturn, 1),
  (17, .aload_n 0, 1),
  (18, .iload_n 1, 1),
  (19, .invokevirtual 380, 3),
  (22, .ireturn, 1)]
def mi_M_runSteps : mi_T := ("DataflowLabModel", ({ cls := "DataflowLabModel", name := "runSteps", desc := "(I)I" } : MethodName), prog_14_method_125_code, 2, (Option.some FieldType.int), [], tb_M_runSteps)
theorem mo_M_runSteps : mi_ok mi_M_runSteps := by
  show ∀ q ∈ tb_M_runSteps, decode prog_14_method_125_code q.1 = .ok q.2
  decide +kernel
theorem mw_M_runSteps : mi_w mi_M_runSteps 1 := ⟨tb_m 2357 (by decide +kernel) (by decide +kernel), tb_m 161 (by decide +kernel) rfl, ⟨by decide +kernel, by decide +kernel, by decide +kernel⟩, by decide +kernel⟩
theorem mv_M_runSteps : mi_wV mi_M_runSteps := ⟨tb_m 2355 (by decide +kernel) rfl, tb_m 2356 (by decide +kernel) rfl⟩
def tb_M_runEnds : List (Nat × Instr × Nat) := [(0, .aload_n 0, 1),
  (1, .iconst 0, 1),
  (2, .putfield 55, 3),
  (5, .aload_n 0, 1),
  (6, .iload_n 1, 1),
  (7, .iconst 1, 1),
  (8, .iconst 1, 1),
  (9, .invokevirtual 377, 3),
  (12, .ifCond .ne 5, 3),
  (15, .iconst 0, 1),
  (16, .ireturn, 1),
  (17, .aload_n 0, 1),
  (18, .iload_n 1, 1),
  (19, .invokevirtual 380, 3),
  (22, .istore_n 2, 1),
  (23, .aload_n 0, 1),
  (24, .getfield 213, 3),
  (27, .ireturn, 1)]
def mi_M_runEnds : mi_T := ("DataflowLabModel", ({ cls := "DataflowLabModel", name := "runEnds", desc := "(I)Z" } : MethodName), prog_14_method_126_code, 3, (Option.some FieldType.boolean), [], tb_M_runEnds)
theorem mo_M_runEnds : mi_ok mi_M_runEnds := by
  show ∀ q ∈ tb_M_runEnds, decode prog_14_method_126_code q.1 = .ok q.2
  decide +kernel
theorem mw_M_runEnds : mi_w mi_M_runEnds 1 := ⟨tb_m 2381 (by decide +kernel) (by decide +kernel), tb_m 161 (by decide +kernel) rfl, ⟨by decide +kernel, by decide +kernel, by decide +kernel⟩, by decide +kernel⟩
theorem mv_M_runEnds : mi_wV mi_M_runEnds := ⟨tb_m 2379 (by decide +kernel) rfl, tb_m 2380 (by decide +kernel) rfl⟩
def tb_M_valueAfter : List (Nat × Instr × Nat) := [(0, .aload_n 0, 1),
  (1, .iconst 0, 1),
  (2, .putfield 55, 3),
  (5, .aload_n 0, 1),
  (6, .iload_n 1, 1),
  (7, .iconst 0, 1),
  (8, .iconst 1, 1),
  (9, .invokevirtual 377, 3),
  (12, .ifCond .eq 12, 3),
  (15, .aload_n 0, 1),
  (16, .iload_n 2, 1),
  (17, .iconst 1, 1),
  (18, .invokevirtual 335, 3),
  (21, .ifCond .ne 5, 3),
  (24, .iconst 0, 1),
  (25, .ireturn, 1),
  (26, .aload_n 0, 1),
  (27, .iload_n 1, 1),
  (28, .invokevirtual 380, 3),
  (31, .istore_n 3, 1),
  (32, .aload_n 0, 1),
  (33, .getfield 29, 3),
  (36, .iload_n 2, 1),
  (37, .iaload, 1),
  (38, .ireturn, 1)]
def mi_M_valueAfter : mi_T := ("DataflowLabModel", ({ cls := "DataflowLabModel", name := "valueAfter", desc := "(II)I" } : MethodName), prog_14_method_127_code, 4, (Option.some FieldType.int), [], tb_M_valueAfter)
theorem mo_M_valueAfter : mi_ok mi_M_valueAfter := by
  show ∀ q ∈ tb_M_valueAfter, decode prog_14_method_127_code q.1 = .ok q.2
  decide +kernel
theorem mw_M_valueAfter : mi_w mi_M_valueAfter 2 := ⟨tb_m 2385 (by decide +kernel) (by decide +kernel), tb_m 161 (by decide +kernel) rfl, ⟨by decide +kernel, by decide +kernel, by decide +kernel⟩, by decide +kernel⟩
theorem mv_M_valueAfter : mi_wV mi_M_valueAfter := ⟨tb_m 2383 (by decide +kernel) rfl, tb_m 2384 (by decide +kernel) rfl⟩
def tb_M_lastShown : List (Nat × Instr × Nat) := [(0, .aload_n 0, 1),
  (1, .iconst 0, 1),
  (2, .putfield 55, 3),
  (5, .aload_n 0, 1),
  (6, .iload_n 1, 1),
  (7, .iconst 0, 1),
  (8, .iconst 1, 1),
  (9, .invokevirtual 377, 3),
  (12, .ifCond .ne 5, 3),
  (15, .iconst 0, 1),
  (16, .ireturn, 1),
  (17, .aload_n 0, 1),
  (18, .iload_n 1, 1),
  (19, .invokevirtual 380, 3),
  (22, .istore_n 2, 1),
  (23, .aload_n 0, 1),
  (24, .getfield 210, 3),
  (27, .ireturn, 1)]
def mi_M_lastShown : mi_T := ("DataflowLabModel", ({ cls := "DataflowLabModel", name := "lastShown", desc := "(I)I" } : MethodName), prog_14_method_128_code, 3, (Option.some FieldType.int), [], tb_M_lastShown)
theorem mo_M_lastShown : mi_ok mi_M_lastShown := by
  show ∀ q ∈ tb_M_lastShown, decode prog_14_method_128_code q.1 = .ok q.2
  decide +kernel
theorem mw_M_lastShown : mi_w mi_M_lastShown 1 := ⟨tb_m 2389 (by decide +kernel) (by decide +kernel), tb_m 161 (by decide +kernel) rfl, ⟨by decide +kernel, by decide +kernel, by decide +kernel⟩, by decide +kernel⟩
theorem mv_M_lastShown : mi_wV mi_M_lastShown := ⟨tb_m 2387 (by decide +kernel) rfl, tb_m 2388 (by decide +kernel) rfl⟩
def tb_M_visits : List (Nat × Instr × Nat) := [(0, .aload_n 0, 1),
  (1, .iload_n 1, 1),
  (2, .invokevirtual 329, 3),
  (5, .ifCond .eq 13, 3),
  (8, .aload_n 0, 1),
  (9, .iload_n 2, 1),
  (10, .iconst 0, 1),
  (11, .iconst 2, 1),
  (12, .invokevirtual 377, 3),
  (15, .ifCond .ne 5, 3),
  (18, .iconst 0, 1),
  (19, .ireturn, 1),
  (20, .aload_n 0, 1),
  (21, .invokevirtual 220, 3),
  (24, .iload_n 1, 1),
  (25, .ifCond .ne 7, 3),
  (28, .iconst 1, 1),
  (29, .goto 4, 3),
  (32, .iconst 0, 1),
  (33, .invokestatic 117, 3),
  (36, .istore_n 3, 1),
  (37, .iconst 0, 1),
  (38, .istore 4, 2),
  (40, .iload 4, 2),
  (42, .iload_n 2, 1),
  (43, .if_icmp .ge 73, 3),
  (46, .aload_n 0, 1),
  (47, .getfield 213, 3),
  (50, .ifCond .ne 66, 3),
  (53, .aload_n 0, 1),
  (54, .getfield 207, 3),
  (57, .aload_n 0, 1),
  (58, .aload_n 0, 1),
  (59, .getfield 204, 3),
  (62, .invokevirtual 87, 3),
  (65, .if_icmp .ne 7, 3),
  (68, .iconst 1, 1),
  (69, .goto 4, 3),
  (72, .iconst 0, 1),
  (73, .istore 5, 2),
  (75, .aload_n 0, 1),
  (76, .invokevirtual 223, 3),
  (79, .iload_n 3, 1),
  (80, .iload 5, 2),
  (82, .ifCond .eq 22, 3),
  (85, .aload_n 0, 1),
  (86, .getfield 213, 3),
  (89, .ifCond .ne 15, 3),
  (92, .aload_n 0, 1),
  (93, .getfield 204, 3),
  (96, .iload_n 1, 1),
  (97, .if_icmp .ne 7, 3),
  (100, .iconst 1, 1),
  (101, .goto 4, 3),
  (104, .iconst 0, 1),
  (105, .invokestatic 117, 3),
  (108, .iadd, 1),
  (109, .istore_n 3, 1),
  (110, .iinc 4 1, 3),
  (113, .goto (-73), 3),
  (116, .iload_n 3, 1),
  (117, .ireturn, 1)]
def mi_M_visits : mi_T := ("DataflowLabModel", ({ cls := "DataflowLabModel", name := "visits", desc := "(II)I" } : MethodName), prog_14_method_129_code, 6, (Option.some FieldType.int), [], tb_M_visits)
theorem mo_M_visits : mi_ok mi_M_visits := by
  show ∀ q ∈ tb_M_visits, decode prog_14_method_129_code q.1 = .ok q.2
  decide +kernel
theorem mw_M_visits : mi_w mi_M_visits 2 := ⟨tb_m 2393 (by decide +kernel) (by decide +kernel), tb_m 161 (by decide +kernel) rfl, ⟨by decide +kernel, by decide +kernel, by decide +kernel⟩, by decide +kernel⟩
theorem mv_M_visits : mi_wV mi_M_visits := ⟨tb_m 2391 (by decide +kernel) rfl, tb_m 2392 (by decide +kernel) rfl⟩
def tb_M_auditDifference : List (Nat × Instr × Nat) := [(0, .aload_n 0, 1),
  (1, .iconst 0, 1),
  (2, .putfield 55, 3),
  (5, .iconst 0, 1),
  (6, .istore_n 1, 1),
  (7, .bipush 8, 2),
  (9, .newarray .boolean, 2),
  (11, .astore_n 2, 1),
  (12, .aload_n 0, 1),
  (13, .invokevirtual 220, 3),
  (16, .aload_n 0, 1),
  (17, .invokevirtual 196, 3),
  (20, .iconst 0, 1),
  (21, .istore_n 3, 1),
  (22, .iload_n 3, 1),
  (23, .sipush 200, 3),
  (26, .if_icmp .ge 159, 3),
  (29, .aload_n 0, 1),
  (30, .getfield 213, 3),
  (33, .ifCond .ne 152, 3),
  (36, .aload_n 0, 1),
  (37, .aload_n 0, 1),
  (38, .getfield 204, 3),
  (41, .aload_n 0, 1),
  (42, .getfield 207, 3),
  (45, .invokevirtual 187, 3),
  (48, .iconst 0, 1),
  (49, .istore 4, 2),
  (51, .iload 4, 2),
  (53, .bipush 8, 2),
  (55, .if_icmp .ge 82, 3),
  (58, .iload_n 1, 1),
  (59, .aload_n 0, 1),
  (60, .getfield 26, 3),
  (63, .iload 4, 2),
  (65, .iaload, 1),
  (66, .ifCond .lt 24, 3),
  (69, .aload_n 0, 1),
  (70, .getfield 26, 3),
  (73, .iload 4, 2),
  (75, .iaload, 1),
  (76, .aload_n 0, 1),
  (77, .getfield 29, 3),
  (80, .iload 4, 2),
  (82, .iaload, 1),
  (83, .if_icmp .eq 7, 3),
  (86, .iconst 1, 1),
  (87, .goto 4, 3),
  (90, .iconst 0, 1),
  (91, .invokestatic 117, 3),
  (94, .iadd, 1),
  (95, .istore_n 1, 1),
  (96, .iload_n 1, 1),
  (97, .aload_n 2, 1),
  (98, .iload 4, 2),
  (100, .baload, 1),
  (101, .ifCond .ne 24, 3),
  (104, .aload_n 0, 1),
  (105, .aload_n 0, 1),
  (106, .getfield 204, 3),
  (109, .aload_n 0, 1),
  (110, .getfield 207, 3),
  (113, .iload 4, 2),
  (115, .invokevirtual 341, 3),
  (118, .ifCond .ne 7, 3),
  (121, .iconst 1, 1),
  (122, .goto 4, 3),
  (125, .iconst 0, 1),
  (126, .invokestatic 117, 3),
  (129, .iadd, 1),
  (130, .istore_n 1, 1),
  (131, .iinc 4 1, 3),
  (134, .goto (-83), 3),
  (137, .aload_n 0, 1),
  (138, .getfield 207, 3),
  (141, .aload_n 0, 1),
  (142, .aload_n 0, 1),
  (143, .getfield 204, 3),
  (146, .invokevirtual 87, 3),
  (149, .if_icmp .ge 26, 3),
  (152, .aload_n 0, 1),
  (153, .aload_n 0, 1),
  (154, .getfield 207, 3),
  (157, .invokevirtual 99, 3),
  (160, .ifCond .eq 15, 3),
  (163, .aload_n 2, 1),
  (164, .aload_n 0, 1),
  (165, .aload_n 0, 1),
  (166, .getfield 207, 3),
  (169, .iconst 1, 1),
  (170, .invokevirtual 96, 3),
  (173, .iconst 1, 1),
  (174, .bastore, 1),
  (175, .aload_n 0, 1),
  (176, .invokevirtual 223, 3),
  (179, .iinc 3 1, 3),
  (182, .goto (-160), 3),
  (185, .iload_n 1, 1),
  (186, .ireturn, 1)]
def mi_M_auditDifference : mi_T := ("DataflowLabModel", ({ cls := "DataflowLabModel", name := "auditDifference", desc := "()I" } : MethodName), prog_14_method_130_code, 5, (Option.some FieldType.int), [], tb_M_auditDifference)
theorem mo_M_auditDifference : mi_ok mi_M_auditDifference := by
  show ∀ q ∈ tb_M_auditDifference, decode prog_14_method_130_code q.1 = .ok q.2
  decide +kernel
theorem mw_M_auditDifference : mi_w mi_M_auditDifference 0 := ⟨tb_m 2397 (by decide +kernel) (by decide +kernel), tb_m 161 (by decide +kernel) rfl, ⟨by decide +kernel, by decide +kernel, by decide +kernel⟩, by decide +kernel⟩
theorem mv_M_auditDifference : mi_wV mi_M_auditDifference := ⟨tb_m 2395 (by decide +kernel) rfl, tb_m 2396 (by decide +kernel) rfl⟩
def tb_M_definitions : List (Nat × Instr × Nat) := [(0, .iconst 0, 1),
  (1, .istore_n 1, 1),
  (2, .iconst 0, 1),
  (3, .istore_n 2, 1),
  (4, .iload_n 2, 1),
  (5, .aload_n 0, 1),
  (6, .iconst 1, 1),
  (7, .invokevirtual 61, 3),
  (10, .if_icmp .ge 20, 3),
  (13, .iload_n 1, 1),
  (14, .aload_n 0, 1),
  (15, .iload_n 2, 1),
  (16, .invokevirtual 99, 3),
  (19, .invokestatic 117, 3),
  (22, .iadd, 1),
  (23, .istore_n 1, 1),
  (24, .iinc 2 1, 3),
  (27, .goto (-23), 3),
  (30, .iload_n 1, 1),
  (31, .ireturn, 1)]
def mi_M_definitions : mi_T := ("DataflowLabModel", ({ cls := "DataflowLabModel", name := "definitions", desc := "()I" } : MethodName), prog_14_method_131_code, 3, (Option.some FieldType.int), [], tb_M_definitions)
theorem mo_M_definitions : mi_ok mi_M_definitions := by
  show ∀ q ∈ tb_M_definitions, decode prog_14_method_131_code q.1 = .ok q.2
  decide +kernel
theorem mw_M_definitions : mi_w mi_M_definitions 0 := ⟨tb_m 2405 (by decide +kernel) (by decide +kernel), tb_m 161 (by decide +kernel) rfl, ⟨by decide +kernel, by decide +kernel, by decide +kernel⟩, by decide +kernel⟩
theorem mv_M_definitions : mi_wV mi_M_definitions := ⟨tb_m 2404 (by decide +kernel) rfl, tb_m 130 (by decide +kernel) rfl⟩
def tb_M_deadShare : List (Nat × Instr × Nat) := [(0, .aload_n 0, 1),
  (1, .iconst 0, 1),
  (2, .putfield 55, 3),
  (5, .aload_n 0, 1),
  (6, .invokevirtual 383, 3),
  (9, .ifCond .ne 7, 3),
  (12, .fconst 0, 1),
  (13, .goto 14, 3),
  (16, .aload_n 0, 1),
  (17, .invokevirtual 350, 3),
  (20, .i2f, 1),
  (21, .aload_n 0, 1),
  (22, .invokevirtual 383, 3),
  (25, .i2f, 1),
  (26, .fdiv, 1),
  (27, .freturn, 1)]
def mi_M_deadShare : mi_T := ("DataflowLabModel", ({ cls := "DataflowLabModel", name := "deadShare", desc := "()F" } : MethodName), prog_14_method_132_code, 1, (Option.some FieldType.float), [], tb_M_deadShare)
theorem mo_M_deadShare : mi_ok mi_M_deadShare := by
  show ∀ q ∈ tb_M_deadShare, decode prog_14_method_132_code q.1 = .ok q.2
  decide +kernel
theorem mw_M_deadShare : mi_w mi_M_deadShare 0 := ⟨tb_m 2401 (by decide +kernel) (by decide +kernel), tb_m 161 (by decide +kernel) rfl, ⟨by decide +kernel, by decide +kernel, by decide +kernel⟩, by decide +kernel⟩
theorem mv_M_deadShare : mi_wV mi_M_deadShare := ⟨tb_m 2399 (by decide +kernel) rfl, tb_m 2400 (by decide +kernel) rfl⟩
def tb_M_meanLive : List (Nat × Instr × Nat) := [(0, .aload_n 0, 1),
  (1, .iconst 0, 1),
  (2, .putfield 55, 3),
  (5, .iconst 0, 1),
  (6, .istore_n 1, 1),
  (7, .iconst 0, 1),
  (8, .istore_n 2, 1),
  (9, .iload_n 2, 1),
  (10, .aload_n 0, 1),
  (11, .iconst 1, 1),
  (12, .invokevirtual 61, 3),
  (15, .if_icmp .ge 22, 3),
  (18, .iload_n 1, 1),
  (19, .aload_n 0, 1),
  (20, .aload_n 0, 1),
  (21, .iload_n 2, 1),
  (22, .invokevirtual 121, 3),
  (25, .iload_n 2, 1),
  (26, .invokevirtual 344, 3),
  (29, .iadd, 1),
  (30, .istore_n 1, 1),
  (31, .iinc 2 1, 3),
  (34, .goto (-25), 3),
  (37, .aload_n 0, 1),
  (38, .iconst 1, 1),
  (39, .invokevirtual 61, 3),
  (42, .ifCond .ne 7, 3),
  (45, .dconst 0, 1),
  (46, .goto 12, 3),
  (49, .iload_n 1, 1),
  (50, .i2d, 1),
  (51, .aload_n 0, 1),
  (52, .iconst 1, 1),
  (53, .invokevirtual 61, 3),
  (56, .i2d, 1),
  (57, .ddiv, 1),
  (58, .dreturn, 1)]
def mi_M_meanLive : mi_T := ("DataflowLabModel", ({ cls := "DataflowLabModel", name := "meanLive", desc := "()D" } : MethodName), prog_14_method_133_code, 3, (Option.some FieldType.double), [], tb_M_meanLive)
theorem mo_M_meanLive : mi_ok mi_M_meanLive := by
  show ∀ q ∈ tb_M_meanLive, decode prog_14_method_133_code q.1 = .ok q.2
  decide +kernel
theorem mw_M_meanLive : mi_w mi_M_meanLive 0 := ⟨tb_m 2409 (by decide +kernel) (by decide +kernel), tb_m 161 (by decide +kernel) rfl, ⟨by decide +kernel, by decide +kernel, by decide +kernel⟩, by decide +kernel⟩
theorem mv_M_meanLive : mi_wV mi_M_meanLive := ⟨tb_m 2407 (by decide +kernel) rfl, tb_m 2408 (by decide +kernel) rfl⟩
def tb_M_keeps : List (Nat × Instr × Nat) := [(0, .aload_n 0, 1),
  (1, .getfield 326, 3),
  (4, .bipush 6, 2),
  (6, .if_icmp .ne 39, 3),
  (9, .iconst 1, 1),
  (10, .istore_n 1, 1),
  (11, .iload_n 1, 1),
  (12, .bipush 6, 2),
  (14, .if_icmp .ge 21, 3),
  (17, .aload_n 0, 1),
  (18, .iconst 1, 1),
  (19, .iload_n 1, 1),
  (20, .iadd, 1),
  (21, .iconst 1, 1),
  (22, .iload_n 1, 1),
  (23, .iadd, 1),
  (24, .iconst 1, 1),
  (25, .isub, 1),
  (26, .invokevirtual 323, 3),
  (29, .iinc 1 1, 3),
  (32, .goto (-21), 3),
  (35, .aload_n 0, 1),
  (36, .dup, 1),
  (37, .getfield 326, 3),
  (40, .iconst 1, 1),
  (41, .isub, 1),
  (42, .putfield 326, 3),
  (45, .aload_n 0, 1),
  (46, .iconst 0, 1),
  (47, .iconst 1, 1),
  (48, .aload_n 0, 1),
  (49, .getfield 326, 3),
  (52, .iadd, 1),
  (53, .invokevirtual 323, 3),
  (56, .aload_n 0, 1),
  (57, .dup, 1),
  (58, .getfield 326, 3),
  (61, .iconst 1, 1),
  (62, .iadd, 1),
  (63, .putfield 326, 3),
  (66, .return_, 1)]
def mi_M_keeps : mi_T := ("DataflowLabModel", ({ cls := "DataflowLabModel", name := "keeps", desc := "()V" } : MethodName), prog_14_method_134_code, 2, (Option.none : Option FieldType), [], tb_M_keeps)
theorem mo_M_keeps : mi_ok mi_M_keeps := by
  show ∀ q ∈ tb_M_keeps, decode prog_14_method_134_code q.1 = .ok q.2
  decide +kernel
theorem mw_M_keeps : mi_w mi_M_keeps 0 := ⟨tb_m 2425 (by decide +kernel) (by decide +kernel), tb_m 161 (by decide +kernel) rfl, ⟨by decide +kernel, by decide +kernel, by decide +kernel⟩, by decide +kernel⟩
theorem mv_M_keeps : mi_wV mi_M_keeps := ⟨tb_m 2424 (by decide +kernel) rfl, tb_m 133 (by decide +kernel) rfl⟩
def tb_M_canInsert : List (Nat × Instr × Nat) := [(0, .iload_n 2, 1),
  (1, .iconst 0, 1),
  (2, .aload_n 0, 1),
  (3, .iload_n 1, 1),
  (4, .iconst 0, 1),
  (5, .invokevirtual 80, 3),
  (8, .invokestatic 124, 3),
  (11, .ifCond .eq 15, 3),
  (14, .iload_n 3, 1),
  (15, .iconst 0, 1),
  (16, .bipush 7, 2),
  (18, .invokestatic 124, 3),
  (21, .ifCond .eq 5, 3),
  (24, .iconst 1, 1),
  (25, .ireturn, 1),
  (26, .aload_n 0, 1),
  (27, .iconst 2, 1),
  (28, .putfield 55, 3),
  (31, .iconst 0, 1),
  (32, .ireturn, 1)]
def mi_M_canInsert : mi_T := ("DataflowLabModel", ({ cls := "DataflowLabModel", name := "canInsert", desc := "(III)Z" } : MethodName), prog_14_method_135_code, 4, (Option.some FieldType.boolean), [], tb_M_canInsert)
theorem mo_M_canInsert : mi_ok mi_M_canInsert := by
  show ∀ q ∈ tb_M_canInsert, decode prog_14_method_135_code q.1 = .ok q.2
  decide +kernel
theorem mw_M_canInsert : mi_w mi_M_canInsert 3 := ⟨tb_m 2417 (by decide +kernel) (by decide +kernel), tb_m 161 (by decide +kernel) rfl, ⟨by decide +kernel, by decide +kernel, by decide +kernel⟩, by decide +kernel⟩
theorem mv_M_canInsert : mi_wV mi_M_canInsert := ⟨tb_m 2416 (by decide +kernel) rfl, tb_m 131 (by decide +kernel) rfl⟩
def tb_M_inserts : List (Nat × Instr × Nat) := [(0, .aload_n 0, 1),
  (1, .iconst 1, 1),
  (2, .invokevirtual 61, 3),
  (5, .bipush 40, 2),
  (7, .if_icmp .ne 10, 3),
  (10, .aload_n 0, 1),
  (11, .iconst 3, 1),
  (12, .putfield 55, 3),
  (15, .iconst 0, 1),
  (16, .ireturn, 1),
  (17, .aload_n 0, 1),
  (18, .invokevirtual 386, 3),
  (21, .aload_n 0, 1),
  (22, .iload_n 1, 1),
  (23, .invokevirtual 84, 3),
  (26, .iload_n 2, 1),
  (27, .iadd, 1),
  (28, .istore 8, 2),
  (30, .aload_n 0, 1),
  (31, .iconst 1, 1),
  (32, .invokevirtual 61, 3),
  (35, .istore 9, 2),
  (37, .iload 9, 2),
  (39, .iload 8, 2),
  (41, .if_icmp .le 42, 3),
  (44, .iconst 0, 1),
  (45, .istore 10, 2),
  (47, .iload 10, 2),
  (49, .iconst 5, 1),
  (50, .if_icmp .ge 27, 3),
  (53, .aload_n 0, 1),
  (54, .iload 9, 2),
  (56, .iload 10, 2),
  (58, .aload_n 0, 1),
  (59, .iload 9, 2),
  (61, .iconst 1, 1),
  (62, .isub, 1),
  (63, .iload 10, 2),
  (65, .invokevirtual 96, 3),
  (68, .invokevirtual 69, 3),
  (71, .iinc 10 1, 3),
  (74, .goto (-27), 3),
  (77, .iinc 9 (-1), 3),
  (80, .goto (-43), 3),
  (83, .aload_n 0, 1),
  (84, .iload 8, 2),
  (86, .iload_n 3, 1),
  (87, .iload 4, 2),
  (89, .iload 5, 2),
  (91, .iload 6, 2),
  (93, .iload 7, 2),
  (95, .invokevirtual 76, 3),
  (98, .aload_n 0, 1),
  (99, .iload_n 1, 1),
  (100, .iconst 0, 1),
  (101, .aload_n 0, 1),
  (102, .iload_n 1, 1),
  (103, .iconst 0, 1),
  (104, .invokevirtual 80, 3),
  (107, .iconst 1, 1),
  (108, .iadd, 1),
  (109, .invokevirtual 73, 3),
  (112, .aload_n 0, 1),
  (113, .iconst 1, 1),
  (114, .aload_n 0, 1),
  (115, .iconst 1, 1),
  (116, .invokevirtual 61, 3),
  (119, .iconst 1, 1),
  (120, .iadd, 1),
  (121, .invokevirtual 65, 3),
  (124, .iload 8, 2),
  (126, .ireturn, 1)]
def mi_M_inserts : mi_T := ("DataflowLabModel", ({ cls := "DataflowLabModel", name := "inserts", desc := "(IIIIIII)I" } : MethodName), prog_14_method_136_code, 11, (Option.some FieldType.int), [], tb_M_inserts)
theorem mo_M_inserts : mi_ok mi_M_inserts := by
  show ∀ q ∈ tb_M_inserts, decode prog_14_method_136_code q.1 = .ok q.2
  decide +kernel
theorem mw_M_inserts : mi_w mi_M_inserts 7 := ⟨tb_m 2421 (by decide +kernel) (by decide +kernel), tb_m 161 (by decide +kernel) rfl, ⟨by decide +kernel, by decide +kernel, by decide +kernel⟩, by decide +kernel⟩
theorem mv_M_inserts : mi_wV mi_M_inserts := ⟨tb_m 2420 (by decide +kernel) rfl, tb_m 132 (by decide +kernel) rfl⟩
def tb_M_insertSet : List (Nat × Instr × Nat) := [(0, .aload_n 0, 1),
  (1, .iload_n 1, 1),
  (2, .invokevirtual 329, 3),
  (5, .ifCond .eq 13, 3),
  (8, .aload_n 0, 1),
  (9, .iload_n 1, 1),
  (10, .iload_n 2, 1),
  (11, .iload_n 3, 1),
  (12, .invokevirtual 389, 3),
  (15, .ifCond .ne 5, 3),
  (18, .iconst 0, 1),
  (19, .ireturn, 1),
  (20, .iload 4, 2),
  (22, .ifCond .lt 11, 3),
  (25, .iload 4, 2),
  (27, .sipush 999, 3),
  (30, .if_icmp .le 10, 3),
  (33, .aload_n 0, 1),
  (34, .iconst 2, 1),
  (35, .putfield 55, 3),
  (38, .iconst 0, 1),
  (39, .ireturn, 1),
  (40, .aload_n 0, 1),
  (41, .iload_n 1, 1),
  (42, .iload_n 2, 1),
  (43, .iconst 0, 1),
  (44, .iload_n 3, 1),
  (45, .iload 4, 2),
  (47, .iconst 0, 1),
  (48, .iconst 0, 1),
  (49, .invokevirtual 392, 3),
  (52, .ireturn, 1)]
def mi_M_insertSet : mi_T := ("DataflowLabModel", ({ cls := "DataflowLabModel", name := "insertSet", desc := "(IIII)I" } : MethodName), prog_14_method_137_code, 5, (Option.some FieldType.int), [], tb_M_insertSet)
theorem mo_M_insertSet : mi_ok mi_M_insertSet := by
  show ∀ q ∈ tb_M_insertSet, decode prog_14_method_137_code q.1 = .ok q.2
  decide +kernel
theorem mw_M_insertSet : mi_w mi_M_insertSet 4 := ⟨tb_m 2413 (by decide +kernel) (by decide +kernel), tb_m 161 (by decide +kernel) rfl, ⟨by decide +kernel, by decide +kernel, by decide +kernel⟩, by decide +kernel⟩
theorem mv_M_insertSet : mi_wV mi_M_insertSet := ⟨tb_m 2411 (by decide +kernel) rfl, tb_m 2412 (by decide +kernel) rfl⟩
def tb_M_insertCalc : List (Nat × Instr × Nat) := [(0, .aload_n 0, 1),
  (1, .iload_n 1, 1),
  (2, .invokevirtual 329, 3),
  (5, .ifCond .eq 13, 3),
  (8, .aload_n 0, 1),
  (9, .iload_n 1, 1),
  (10, .iload_n 2, 1),
  (11, .iload_n 3, 1),
  (12, .invokevirtual 389, 3),
  (15, .ifCond .ne 5, 3),
  (18, .iconst 0, 1),
  (19, .ireturn, 1),
  (20, .iload 4, 2),
  (22, .iconst 0, 1),
  (23, .bipush 7, 2),
  (25, .invokestatic 124, 3),
  (28, .ifCond .eq 24, 3),
  (31, .iload 5, 2),
  (33, .iconst 0, 1),
  (34, .iconst 2, 1),
  (35, .invokestatic 124, 3),
  (38, .ifCond .eq 14, 3),
  (41, .iload 6, 2),
  (43, .iconst 0, 1),
  (44, .bipush 7, 2),
  (46, .invokestatic 124, 3),
  (49, .ifCond .ne 10, 3),
  (52, .aload_n 0, 1),
  (53, .iconst 2, 1),
  (54, .putfield 55, 3),
  (57, .iconst 0, 1),
  (58, .ireturn, 1),
  (59, .aload_n 0, 1),
  (60, .iload_n 1, 1),
  (61, .iload_n 2, 1),
  (62, .iconst 2, 1),
  (63, .iload_n 3, 1),
  (64, .iload 4, 2),
  (66, .iload 5, 2),
  (68, .iload 6, 2),
  (70, .invokevirtual 392, 3),
  (73, .ireturn, 1)]
def mi_M_insertCalc : mi_T := ("DataflowLabModel", ({ cls := "DataflowLabModel", name := "insertCalc", desc := "(IIIIII)I" } : MethodName), prog_14_method_138_code, 7, (Option.some FieldType.int), [], tb_M_insertCalc)
theorem mo_M_insertCalc : mi_ok mi_M_insertCalc := by
  show ∀ q ∈ tb_M_insertCalc, decode prog_14_method_138_code q.1 = .ok q.2
  decide +kernel
theorem mw_M_insertCalc : mi_w mi_M_insertCalc 6 := ⟨tb_m 2429 (by decide +kernel) (by decide +kernel), tb_m 161 (by decide +kernel) rfl, ⟨by decide +kernel, by decide +kernel, by decide +kernel⟩, by decide +kernel⟩
theorem mv_M_insertCalc : mi_wV mi_M_insertCalc := ⟨tb_m 2427 (by decide +kernel) rfl, tb_m 2428 (by decide +kernel) rfl⟩
def tb_M_removes : List (Nat × Instr × Nat) := [(0, .aload_n 0, 1),
  (1, .iload_n 1, 1),
  (2, .invokevirtual 121, 3),
  (5, .istore_n 2, 1),
  (6, .aload_n 0, 1),
  (7, .iload_n 2, 1),
  (8, .iconst 0, 1),
  (9, .aload_n 0, 1),
  (10, .iload_n 2, 1),
  (11, .iconst 0, 1),
  (12, .invokevirtual 80, 3),
  (15, .iconst 1, 1),
  (16, .isub, 1),
  (17, .invokevirtual 73, 3),
  (20, .aload_n 0, 1),
  (21, .iconst 1, 1),
  (22, .aload_n 0, 1),
  (23, .iconst 1, 1),
  (24, .invokevirtual 61, 3),
  (27, .iconst 1, 1),
  (28, .isub, 1),
  (29, .invokevirtual 65, 3),
  (32, .iload_n 1, 1),
  (33, .istore_n 3, 1),
  (34, .iload_n 3, 1),
  (35, .aload_n 0, 1),
  (36, .iconst 1, 1),
  (37, .invokevirtual 61, 3),
  (40, .if_icmp .ge 40, 3),
  (43, .iconst 0, 1),
  (44, .istore 4, 2),
  (46, .iload 4, 2),
  (48, .iconst 5, 1),
  (49, .if_icmp .ge 25, 3),
  (52, .aload_n 0, 1),
  (53, .iload_n 3, 1),
  (54, .iload 4, 2),
  (56, .aload_n 0, 1),
  (57, .iload_n 3, 1),
  (58, .iconst 1, 1),
  (59, .iadd, 1),
  (60, .iload 4, 2),
  (62, .invokevirtual 96, 3),
  (65, .invokevirtual 69, 3),
  (68, .iinc 4 1, 3),
  (71, .goto (-25), 3),
  (74, .iinc 3 1, 3),
  (77, .goto (-43), 3),
  (80, .return_, 1)]
def mi_M_removes : mi_T := ("DataflowLabModel", ({ cls := "DataflowLabModel", name := "removes", desc := "(I)V" } : MethodName), prog_14_method_139_code, 5, (Option.none : Option FieldType), [], tb_M_removes)
theorem mo_M_removes : mi_ok mi_M_removes := by
  show ∀ q ∈ tb_M_removes, decode prog_14_method_139_code q.1 = .ok q.2
  decide +kernel
theorem mw_M_removes : mi_w mi_M_removes 1 := ⟨tb_m 2437 (by decide +kernel) (by decide +kernel), tb_m 161 (by decide +kernel) rfl, ⟨by decide +kernel, by decide +kernel, by decide +kernel⟩, by decide +kernel⟩
theorem mv_M_removes : mi_wV mi_M_removes := ⟨tb_m 2436 (by decide +kernel) rfl, tb_m 134 (by decide +kernel) rfl⟩
def tb_M_removeInstruction : List (Nat × Instr × Nat) := [(0, .aload_n 0, 1),
  (1, .iload_n 1, 1),
  (2, .invokevirtual 332, 3),
  (5, .ifCond .ne 5, 3),
  (8, .iconst 0, 1),
  (9, .ireturn, 1),
  (10, .aload_n 0, 1),
  (11, .invokevirtual 386, 3),
  (14, .aload_n 0, 1),
  (15, .iload_n 1, 1),
  (16, .invokevirtual 396, 3),
  (19, .aload_n 0, 1),
  (20, .iconst 1, 1),
  (21, .invokevirtual 61, 3),
  (24, .ireturn, 1)]
def mi_M_removeInstruction : mi_T := ("DataflowLabModel", ({ cls := "DataflowLabModel", name := "removeInstruction", desc := "(I)I" } : MethodName), prog_14_method_140_code, 2, (Option.some FieldType.int), [], tb_M_removeInstruction)
theorem mo_M_removeInstruction : mi_ok mi_M_removeInstruction := by
  show ∀ q ∈ tb_M_removeInstruction, decode prog_14_method_140_code q.1 = .ok q.2
  decide +kernel
theorem mw_M_removeInstruction : mi_w mi_M_removeInstruction 1 := ⟨tb_m 2433 (by decide +kernel) (by decide +kernel), tb_m 161 (by decide +kernel) rfl, ⟨by decide +kernel, by decide +kernel, by decide +kernel⟩, by decide +kernel⟩
theorem mv_M_removeInstruction : mi_wV mi_M_removeInstruction := ⟨tb_m 2431 (by decide +kernel) rfl, tb_m 2432 (by decide +kernel) rfl⟩
def tb_M_setGoto : List (Nat × Instr × Nat) := [(0, .aload_n 0, 1),
  (1, .iload_n 1, 1),
  (2, .invokevirtual 329, 3),
  (5, .ifCond .eq 11, 3),
  (8, .aload_n 0, 1),
  (9, .iload_n 2, 1),
  (10, .invokevirtual 329, 3),
  (13, .ifCond .ne 5, 3),
  (16, .iconst 0, 1),
  (17, .ireturn, 1),
  (18, .aload_n 0, 1),
  (19, .invokevirtual 386, 3),
  (22, .aload_n 0, 1),
  (23, .iload_n 1, 1),
  (24, .iconst 1, 1),
  (25, .iconst 0, 1),
  (26, .iload_n 2, 1),
  (27, .iconst 0, 1),
  (28, .invokevirtual 52, 3),
  (31, .aload_n 0, 1),
  (32, .invokevirtual 399, 3),
  (35, .ireturn, 1)]
def mi_M_setGoto : mi_T := ("DataflowLabModel", ({ cls := "DataflowLabModel", name := "setGoto", desc := "(II)I" } : MethodName), prog_14_method_141_code, 3, (Option.some FieldType.int), [], tb_M_setGoto)
theorem mo_M_setGoto : mi_ok mi_M_setGoto := by
  show ∀ q ∈ tb_M_setGoto, decode prog_14_method_141_code q.1 = .ok q.2
  decide +kernel
theorem mw_M_setGoto : mi_w mi_M_setGoto 2 := ⟨tb_m 2441 (by decide +kernel) (by decide +kernel), tb_m 161 (by decide +kernel) rfl, ⟨by decide +kernel, by decide +kernel, by decide +kernel⟩, by decide +kernel⟩
theorem mv_M_setGoto : mi_wV mi_M_setGoto := ⟨tb_m 2439 (by decide +kernel) rfl, tb_m 2440 (by decide +kernel) rfl⟩
def tb_M_setBranch : List (Nat × Instr × Nat) := [(0, .aload_n 0, 1),
  (1, .iload_n 1, 1),
  (2, .invokevirtual 329, 3),
  (5, .ifCond .eq 29, 3),
  (8, .aload_n 0, 1),
  (9, .iload_n 3, 1),
  (10, .invokevirtual 329, 3),
  (13, .ifCond .eq 21, 3),
  (16, .aload_n 0, 1),
  (17, .iload 4, 2),
  (19, .invokevirtual 329, 3),
  (22, .ifCond .eq 12, 3),
  (25, .aload_n 0, 1),
  (26, .iload_n 2, 1),
  (27, .iconst 2, 1),
  (28, .invokevirtual 335, 3),
  (31, .ifCond .ne 5, 3),
  (34, .iconst 0, 1),
  (35, .ireturn, 1),
  (36, .aload_n 0, 1),
  (37, .invokevirtual 386, 3),
  (40, .aload_n 0, 1),
  (41, .iload_n 1, 1),
  (42, .iconst 2, 1),
  (43, .iload_n 2, 1),
  (44, .iload_n 3, 1),
  (45, .iload 4, 2),
  (47, .invokevirtual 52, 3),
  (50, .aload_n 0, 1),
  (51, .invokevirtual 399, 3),
  (54, .ireturn, 1)]
def mi_M_setBranch : mi_T := ("DataflowLabModel", ({ cls := "DataflowLabModel", name := "setBranch", desc := "(IIII)I" } : MethodName), prog_14_method_142_code, 5, (Option.some FieldType.int), [], tb_M_setBranch)
theorem mo_M_setBranch : mi_ok mi_M_setBranch := by
  show ∀ q ∈ tb_M_setBranch, decode prog_14_method_142_code q.1 = .ok q.2
  decide +kernel
theorem mw_M_setBranch : mi_w mi_M_setBranch 4 := ⟨tb_m 2449 (by decide +kernel) (by decide +kernel), tb_m 161 (by decide +kernel) rfl, ⟨by decide +kernel, by decide +kernel, by decide +kernel⟩, by decide +kernel⟩
theorem mv_M_setBranch : mi_wV mi_M_setBranch := ⟨tb_m 2447 (by decide +kernel) rfl, tb_m 2448 (by decide +kernel) rfl⟩
def tb_M_removesDead : List (Nat × Instr × Nat) := [(0, .bipush 40, 2),
  (2, .newarray .boolean, 2),
  (4, .astore_n 1, 1),
  (5, .iconst 0, 1),
  (6, .istore_n 2, 1),
  (7, .iload_n 2, 1),
  (8, .aload_n 0, 1),
  (9, .iconst 1, 1),
  (10, .invokevirtual 61, 3),
  (13, .if_icmp .ge 17, 3),
  (16, .aload_n 1, 1),
  (17, .iload_n 2, 1),
  (18, .aload_n 0, 1),
  (19, .iload_n 2, 1),
  (20, .invokevirtual 347, 3),
  (23, .bastore, 1),
  (24, .iinc 2 1, 3),
  (27, .goto (-20), 3),
  (30, .iconst 0, 1),
  (31, .istore_n 2, 1),
  (32, .bipush 39, 2),
  (34, .istore_n 3, 1),
  (35, .iload_n 3, 1),
  (36, .ifCond .lt 26, 3),
  (39, .aload_n 1, 1),
  (40, .iload_n 3, 1),
  (41, .baload, 1),
  (42, .ifCond .ne 6, 3),
  (45, .goto 11, 3),
  (48, .aload_n 0, 1),
  (49, .iload_n 3, 1),
  (50, .invokevirtual 396, 3),
  (53, .iinc 2 1, 3),
  (56, .iinc 3 (-1), 3),
  (59, .goto (-24), 3),
  (62, .iload_n 2, 1),
  (63, .ireturn, 1)]
def mi_M_removesDead : mi_T := ("DataflowLabModel", ({ cls := "DataflowLabModel", name := "removesDead", desc := "()I" } : MethodName), prog_14_method_143_code, 4, (Option.some FieldType.int), [], tb_M_removesDead)
theorem mo_M_removesDead : mi_ok mi_M_removesDead := by
  show ∀ q ∈ tb_M_removesDead, decode prog_14_method_143_code q.1 = .ok q.2
  decide +kernel
theorem mw_M_removesDead : mi_w mi_M_removesDead 0 := ⟨tb_m 2457 (by decide +kernel) (by decide +kernel), tb_m 161 (by decide +kernel) rfl, ⟨by decide +kernel, by decide +kernel, by decide +kernel⟩, by decide +kernel⟩
theorem mv_M_removesDead : mi_wV mi_M_removesDead := ⟨tb_m 2456 (by decide +kernel) rfl, tb_m 136 (by decide +kernel) rfl⟩
def tb_M_removeDead : List (Nat × Instr × Nat) := [(0, .aload_n 0, 1),
  (1, .iconst 0, 1),
  (2, .putfield 55, 3),
  (5, .aload_n 0, 1),
  (6, .invokevirtual 386, 3),
  (9, .aload_n 0, 1),
  (10, .invokevirtual 402, 3),
  (13, .istore_n 1, 1),
  (14, .iload_n 1, 1),
  (15, .istore_n 2, 1),
  (16, .iload_n 1, 1),
  (17, .ifCond .le 15, 3),
  (20, .aload_n 0, 1),
  (21, .invokevirtual 402, 3),
  (24, .istore_n 1, 1),
  (25, .iload_n 2, 1),
  (26, .iload_n 1, 1),
  (27, .iadd, 1),
  (28, .istore_n 2, 1),
  (29, .goto (-13), 3),
  (32, .iload_n 2, 1),
  (33, .ireturn, 1)]
def mi_M_removeDead : mi_T := ("DataflowLabModel", ({ cls := "DataflowLabModel", name := "removeDead", desc := "()I" } : MethodName), prog_14_method_144_code, 3, (Option.some FieldType.int), [], tb_M_removeDead)
theorem mo_M_removeDead : mi_ok mi_M_removeDead := by
  show ∀ q ∈ tb_M_removeDead, decode prog_14_method_144_code q.1 = .ok q.2
  decide +kernel
theorem mw_M_removeDead : mi_w mi_M_removeDead 0 := ⟨tb_m 2453 (by decide +kernel) (by decide +kernel), tb_m 161 (by decide +kernel) rfl, ⟨by decide +kernel, by decide +kernel, by decide +kernel⟩, by decide +kernel⟩
theorem mv_M_removeDead : mi_wV mi_M_removeDead := ⟨tb_m 2451 (by decide +kernel) rfl, tb_m 2452 (by decide +kernel) rfl⟩
def tb_M_foldConstants : List (Nat × Instr × Nat) := [(0, .aload_n 0, 1),
  (1, .iconst 0, 1),
  (2, .putfield 55, 3),
  (5, .aload_n 0, 1),
  (6, .invokevirtual 386, 3),
  (9, .bipush 40, 2),
  (11, .newarray .int, 2),
  (13, .astore_n 1, 1),
  (14, .iconst 0, 1),
  (15, .istore_n 2, 1),
  (16, .iload_n 2, 1),
  (17, .aload_n 0, 1),
  (18, .iconst 1, 1),
  (19, .invokevirtual 61, 3),
  (22, .if_icmp .ge 30, 3),
  (25, .aload_n 1, 1),
  (26, .iload_n 2, 1),
  (27, .aload_n 0, 1),
  (28, .iload_n 2, 1),
  (29, .iconst 0, 1),
  (30, .invokevirtual 96, 3),
  (33, .ifCond .ne 7, 3),
  (36, .iconst (-1), 1),
  (37, .goto 8, 3),
  (40, .aload_n 0, 1),
  (41, .iload_n 2, 1),
  (42, .invokevirtual 374, 3),
  (45, .iastore, 1),
  (46, .iinc 2 1, 3),
  (49, .goto (-33), 3),
  (52, .iconst 0, 1),
  (53, .istore_n 2, 1),
  (54, .iconst 0, 1),
  (55, .istore_n 3, 1),
  (56, .iload_n 3, 1),
  (57, .aload_n 0, 1),
  (58, .iconst 1, 1),
  (59, .invokevirtual 61, 3),
  (62, .if_icmp .ge 39, 3),
  (65, .aload_n 1, 1),
  (66, .iload_n 3, 1),
  (67, .iaload, 1),
  (68, .iconst (-1), 1),
  (69, .if_icmp .ne 6, 3),
  (72, .goto 23, 3),
  (75, .aload_n 0, 1),
  (76, .iload_n 3, 1),
  (77, .iconst 0, 1),
  (78, .aload_n 0, 1),
  (79, .iload_n 3, 1),
  (80, .iconst 1, 1),
  (81, .invokevirtual 96, 3),
  (84, .aload_n 1, 1),
  (85, .iload_n 3, 1),
  (86, .iaload, 1),
  (87, .iconst 0, 1),
  (88, .iconst 0, 1),
  (89, .invokevirtual 76, 3),
  (92, .iinc 2 1, 3),
  (95, .iinc 3 1, 3),
  (98, .goto (-42), 3),
  (101, .iload_n 2, 1),
  (102, .ireturn, 1)]
def mi_M_foldConstants : mi_T := ("DataflowLabModel", ({ cls := "DataflowLabModel", name := "foldConstants", desc := "()I" } : MethodName), prog_14_method_145_code, 4, (Option.some FieldType.int), [], tb_M_foldConstants)
theorem mo_M_foldConstants : mi_ok mi_M_foldConstants := by
  show ∀ q ∈ tb_M_foldConstants, decode prog_14_method_145_code q.1 = .ok q.2
  decide +kernel
theorem mw_M_foldConstants : mi_w mi_M_foldConstants 0 := ⟨tb_m 2461 (by decide +kernel) (by decide +kernel), tb_m 161 (by decide +kernel) rfl, ⟨by decide +kernel, by decide +kernel, by decide +kernel⟩, by decide +kernel⟩
theorem mv_M_foldConstants : mi_wV mi_M_foldConstants := ⟨tb_m 2459 (by decide +kernel) rfl, tb_m 2460 (by decide +kernel) rfl⟩
def tb_M_says : List (Nat × Instr × Nat) := [(0, .aload_n 0, 1),
  (1, .getfield 42, 3),
  (4, .aload_n 0, 1),
  (5, .getfield 405, 3),
  (8, .iload_n 1, 1),
  (9, .iastore, 1),
  (10, .aload_n 0, 1),
  (11, .dup, 1),
  (12, .getfield 405, 3),
  (15, .iconst 1, 1),
  (16, .iadd, 1),
  (17, .putfield 405, 3),
  (20, .return_, 1)]
def mi_M_says : mi_T := ("DataflowLabModel", ({ cls := "DataflowLabModel", name := "says", desc := "(I)V" } : MethodName), prog_14_method_146_code, 2, (Option.none : Option FieldType), [], tb_M_says)
theorem mo_M_says : mi_ok mi_M_says := by
  show ∀ q ∈ tb_M_says, decode prog_14_method_146_code q.1 = .ok q.2
  decide +kernel
theorem mw_M_says : mi_w mi_M_says 1 := ⟨tb_m 2477 (by decide +kernel) (by decide +kernel), tb_m 161 (by decide +kernel) rfl, ⟨by decide +kernel, by decide +kernel, by decide +kernel⟩, by decide +kernel⟩
theorem mv_M_says : mi_wV mi_M_says := ⟨tb_m 2476 (by decide +kernel) rfl, tb_m 139 (by decide +kernel) rfl⟩
def tb_M_saysWord : List (Nat × Instr × Nat) := [(0, .iconst 0, 1),
  (1, .istore_n 2, 1),
  (2, .iload_n 2, 1),
  (3, .aload_n 1, 1),
  (4, .invokevirtual 248, 3),
  (7, .if_icmp .ge 18, 3),
  (10, .aload_n 0, 1),
  (11, .aload_n 1, 1),
  (12, .iload_n 2, 1),
  (13, .invokevirtual 253, 3),
  (16, .invokevirtual 408, 3),
  (19, .iinc 2 1, 3),
  (22, .goto (-20), 3),
  (25, .return_, 1)]
def mi_M_saysWord : mi_T := ("DataflowLabModel", ({ cls := "DataflowLabModel", name := "saysWord", desc := "(Ljava/lang/String;)V" } : MethodName), prog_14_method_147_code, 3, (Option.none : Option FieldType), [], tb_M_saysWord)
theorem mo_M_saysWord : mi_ok mi_M_saysWord := by
  show ∀ q ∈ tb_M_saysWord, decode prog_14_method_147_code q.1 = .ok q.2
  decide +kernel
theorem mw_M_saysWord : mi_w mi_M_saysWord 1 := ⟨tb_m 2473 (by decide +kernel) (by decide +kernel), tb_m 161 (by decide +kernel) rfl, ⟨by decide +kernel, by decide +kernel, by decide +kernel⟩, by decide +kernel⟩
theorem mv_M_saysWord : mi_wV mi_M_saysWord := ⟨tb_m 2472 (by decide +kernel) rfl, tb_m 138 (by decide +kernel) rfl⟩
def tb_M_saysVariable : List (Nat × Instr × Nat) := [(0, .aload_n 0, 1),
  (1, .bipush 32, 2),
  (3, .invokevirtual 408, 3),
  (6, .aload_n 0, 1),
  (7, .bipush 97, 2),
  (9, .iload_n 1, 1),
  (10, .iadd, 1),
  (11, .invokevirtual 408, 3),
  (14, .return_, 1)]
def mi_M_saysVariable : mi_T := ("DataflowLabModel", ({ cls := "DataflowLabModel", name := "saysVariable", desc := "(I)V" } : MethodName), prog_14_method_148_code, 2, (Option.none : Option FieldType), [], tb_M_saysVariable)
theorem mo_M_saysVariable : mi_ok mi_M_saysVariable := by
  show ∀ q ∈ tb_M_saysVariable, decode prog_14_method_148_code q.1 = .ok q.2
  decide +kernel
theorem mw_M_saysVariable : mi_w mi_M_saysVariable 1 := ⟨tb_m 2481 (by decide +kernel) (by decide +kernel), tb_m 161 (by decide +kernel) rfl, ⟨by decide +kernel, by decide +kernel, by decide +kernel⟩, by decide +kernel⟩
theorem mv_M_saysVariable : mi_wV mi_M_saysVariable := ⟨tb_m 2480 (by decide +kernel) rfl, tb_m 140 (by decide +kernel) rfl⟩
def tb_M_saysNumber : List (Nat × Instr × Nat) := [(0, .aload_n 0, 1),
  (1, .bipush 32, 2),
  (3, .invokevirtual 408, 3),
  (6, .iload_n 1, 1),
  (7, .bipush 99, 2),
  (9, .if_icmp .le 14, 3),
  (12, .aload_n 0, 1),
  (13, .bipush 48, 2),
  (15, .iload_n 1, 1),
  (16, .bipush 100, 2),
  (18, .idiv, 1),
  (19, .iadd, 1),
  (20, .invokevirtual 408, 3),
  (23, .iload_n 1, 1),
  (24, .bipush 9, 2),
  (26, .if_icmp .le 17, 3),
  (29, .aload_n 0, 1),
  (30, .bipush 48, 2),
  (32, .iload_n 1, 1),
  (33, .bipush 10, 2),
  (35, .idiv, 1),
  (36, .bipush 10, 2),
  (38, .irem, 1),
  (39, .iadd, 1),
  (40, .invokevirtual 408, 3),
  (43, .aload_n 0, 1),
  (44, .bipush 48, 2),
  (46, .iload_n 1, 1),
  (47, .bipush 10, 2),
  (49, .irem, 1),
  (50, .iadd, 1),
  (51, .invokevirtual 408, 3),
  (54, .return_, 1)]
def mi_M_saysNumber : mi_T := ("DataflowLabModel", ({ cls := "DataflowLabModel", name := "saysNumber", desc := "(I)V" } : MethodName), prog_14_method_149_code, 2, (Option.none : Option FieldType), [], tb_M_saysNumber)
theorem mo_M_saysNumber : mi_ok mi_M_saysNumber := by
  show ∀ q ∈ tb_M_saysNumber, decode prog_14_method_149_code q.1 = .ok q.2
  decide +kernel
theorem mw_M_saysNumber : mi_w mi_M_saysNumber 1 := ⟨tb_m 2485 (by decide +kernel) (by decide +kernel), tb_m 161 (by decide +kernel) rfl, ⟨by decide +kernel, by decide +kernel, by decide +kernel⟩, by decide +kernel⟩
theorem mv_M_saysNumber : mi_wV mi_M_saysNumber := ⟨tb_m 2484 (by decide +kernel) rfl, tb_m 141 (by decide +kernel) rfl⟩
def tb_M_saysItem : List (Nat × Instr × Nat) := [(0, .aload_n 0, 1),
  (1, .iload_n 1, 1),
  (2, .iconst 0, 1),
  (3, .invokevirtual 96, 3),
  (6, .tableswitch 164 0 2 #[26, 56, 86], 26),
  (32, .aload_n 0, 1),
  (33, .ldc_w 277, 3),
  (36, .invokevirtual 411, 3),
  (39, .aload_n 0, 1),
  (40, .aload_n 0, 1),
  (41, .iload_n 1, 1),
  (42, .iconst 1, 1),
  (43, .invokevirtual 96, 3),
  (46, .invokevirtual 415, 3),
  (49, .aload_n 0, 1),
  (50, .aload_n 0, 1),
  (51, .iload_n 1, 1),
  (52, .iconst 2, 1),
  (53, .invokevirtual 96, 3),
  (56, .invokevirtual 418, 3),
  (59, .goto 128, 3),
  (62, .aload_n 0, 1),
  (63, .ldc_w 279, 3),
  (66, .invokevirtual 411, 3),
  (69, .aload_n 0, 1),
  (70, .aload_n 0, 1),
  (71, .iload_n 1, 1),
  (72, .iconst 1, 1),
  (73, .invokevirtual 96, 3),
  (76, .invokevirtual 415, 3),
  (79, .aload_n 0, 1),
  (80, .aload_n 0, 1),
  (81, .iload_n 1, 1),
  (82, .iconst 2, 1),
  (83, .invokevirtual 96, 3),
  (86, .invokevirtual 415, 3),
  (89, .goto 98, 3),
  (92, .aload_n 0, 1),
  (93, .ldc_w 281, 3),
  (96, .invokevirtual 411, 3),
  (99, .aload_n 0, 1),
  (100, .aload_n 0, 1),
  (101, .iload_n 1, 1),
  (102, .iconst 1, 1),
  (103, .invokevirtual 96, 3),
  (106, .invokevirtual 415, 3),
  (109, .aload_n 0, 1),
  (110, .aload_n 0, 1),
  (111, .iload_n 1, 1),
  (112, .iconst 2, 1),
  (113, .invokevirtual 96, 3),
  (116, .invokevirtual 415, 3),
  (119, .aload_n 0, 1),
  (120, .aload_n 0, 1),
  (121, .iload_n 1, 1),
  (122, .iconst 3, 1),
  (123, .invokevirtual 96, 3),
  (126, .ifCond .ne 9, 3),
  (129, .ldc_w 421, 3),
  (132, .goto 22, 3),
  (135, .aload_n 0, 1),
  (136, .iload_n 1, 1),
  (137, .iconst 3, 1),
  (138, .invokevirtual 96, 3),
  (141, .iconst 1, 1),
  (142, .if_icmp .ne 9, 3),
  (145, .ldc_w 423, 3),
  (148, .goto 6, 3),
  (151, .ldc_w 425, 3),
  (154, .invokevirtual 411, 3),
  (157, .aload_n 0, 1),
  (158, .aload_n 0, 1),
  (159, .iload_n 1, 1),
  (160, .iconst 4, 1),
  (161, .invokevirtual 96, 3),
  (164, .invokevirtual 415, 3),
  (167, .goto 20, 3),
  (170, .aload_n 0, 1),
  (171, .ldc_w 283, 3),
  (174, .invokevirtual 411, 3),
  (177, .aload_n 0, 1),
  (178, .aload_n 0, 1),
  (179, .iload_n 1, 1),
  (180, .iconst 2, 1),
  (181, .invokevirtual 96, 3),
  (184, .invokevirtual 415, 3),
  (187, .aload_n 0, 1),
  (188, .bipush 59, 2),
  (190, .invokevirtual 408, 3),
  (193, .return_, 1)]
def mi_M_saysItem : mi_T := ("DataflowLabModel", ({ cls := "DataflowLabModel", name := "saysItem", desc := "(I)V" } : MethodName), prog_14_method_150_code, 2, (Option.none : Option FieldType), [], tb_M_saysItem)
theorem mo_M_saysItem : mi_ok mi_M_saysItem := by
  show ∀ q ∈ tb_M_saysItem, decode prog_14_method_150_code q.1 = .ok q.2
  decide +kernel
theorem mw_M_saysItem : mi_w mi_M_saysItem 1 := ⟨tb_m 2469 (by decide +kernel) (by decide +kernel), tb_m 161 (by decide +kernel) rfl, ⟨by decide +kernel, by decide +kernel, by decide +kernel⟩, by decide +kernel⟩
theorem mv_M_saysItem : mi_wV mi_M_saysItem := ⟨tb_m 2468 (by decide +kernel) rfl, tb_m 137 (by decide +kernel) rfl⟩
def tb_M_saysExit : List (Nat × Instr × Nat) := [(0, .aload_n 0, 1),
  (1, .iload_n 1, 1),
  (2, .iconst 1, 1),
  (3, .invokevirtual 80, 3),
  (6, .ifCond .ne 10, 3),
  (9, .aload_n 0, 1),
  (10, .ldc_w 297, 3),
  (13, .invokevirtual 411, 3),
  (16, .aload_n 0, 1),
  (17, .iload_n 1, 1),
  (18, .iconst 1, 1),
  (19, .invokevirtual 80, 3),
  (22, .iconst 1, 1),
  (23, .if_icmp .ne 10, 3),
  (26, .aload_n 0, 1),
  (27, .ldc_w 299, 3),
  (30, .invokevirtual 411, 3),
  (33, .aload_n 0, 1),
  (34, .iload_n 1, 1),
  (35, .iconst 1, 1),
  (36, .invokevirtual 80, 3),
  (39, .iconst 2, 1),
  (40, .if_icmp .ne 20, 3),
  (43, .aload_n 0, 1),
  (44, .ldc_w 301, 3),
  (47, .invokevirtual 411, 3),
  (50, .aload_n 0, 1),
  (51, .aload_n 0, 1),
  (52, .iload_n 1, 1),
  (53, .iconst 2, 1),
  (54, .invokevirtual 80, 3),
  (57, .invokevirtual 415, 3),
  (60, .iconst 0, 1),
  (61, .istore_n 2, 1),
  (62, .iload_n 2, 1),
  (63, .aload_n 0, 1),
  (64, .iload_n 1, 1),
  (65, .invokevirtual 90, 3),
  (68, .if_icmp .ge 19, 3),
  (71, .aload_n 0, 1),
  (72, .aload_n 0, 1),
  (73, .iload_n 1, 1),
  (74, .iload_n 2, 1),
  (75, .invokevirtual 93, 3),
  (78, .invokevirtual 418, 3),
  (81, .iinc 2 1, 3),
  (84, .goto (-22), 3),
  (87, .aload_n 0, 1),
  (88, .bipush 59, 2),
  (90, .invokevirtual 408, 3),
  (93, .return_, 1)]
def mi_M_saysExit : mi_T := ("DataflowLabModel", ({ cls := "DataflowLabModel", name := "saysExit", desc := "(I)V" } : MethodName), prog_14_method_151_code, 3, (Option.none : Option FieldType), [], tb_M_saysExit)
theorem mo_M_saysExit : mi_ok mi_M_saysExit := by
  show ∀ q ∈ tb_M_saysExit, decode prog_14_method_151_code q.1 = .ok q.2
  decide +kernel
theorem mw_M_saysExit : mi_w mi_M_saysExit 1 := ⟨tb_m 2492 (by decide +kernel) (by decide +kernel), tb_m 161 (by decide +kernel) rfl, ⟨by decide +kernel, by decide +kernel, by decide +kernel⟩, by decide +kernel⟩
theorem mv_M_saysExit : mi_wV mi_M_saysExit := ⟨tb_m 2491 (by decide +kernel) rfl, tb_m 142 (by decide +kernel) rfl⟩
def tb_M_writeBlock : List (Nat × Instr × Nat) := [(0, .aload_n 0, 1),
  (1, .iload_n 1, 1),
  (2, .invokevirtual 329, 3),
  (5, .ifCond .ne 5, 3),
  (8, .iconst 0, 1),
  (9, .ireturn, 1),
  (10, .aload_n 0, 1),
  (11, .iconst 0, 1),
  (12, .putfield 405, 3),
  (15, .aload_n 0, 1),
  (16, .iload_n 1, 1),
  (17, .invokevirtual 84, 3),
  (20, .istore_n 2, 1),
  (21, .iload_n 2, 1),
  (22, .aload_n 0, 1),
  (23, .iload_n 1, 1),
  (24, .invokevirtual 87, 3),
  (27, .if_icmp .ge 14, 3),
  (30, .aload_n 0, 1),
  (31, .iload_n 2, 1),
  (32, .invokevirtual 427, 3),
  (35, .iinc 2 1, 3),
  (38, .goto (-17), 3),
  (41, .aload_n 0, 1),
  (42, .iload_n 1, 1),
  (43, .invokevirtual 430, 3),
  (46, .aload_n 0, 1),
  (47, .getfield 405, 3),
  (50, .ireturn, 1)]
def mi_M_writeBlock : mi_T := ("DataflowLabModel", ({ cls := "DataflowLabModel", name := "writeBlock", desc := "(I)I" } : MethodName), prog_14_method_152_code, 3, (Option.some FieldType.int), [], tb_M_writeBlock)
theorem mo_M_writeBlock : mi_ok mi_M_writeBlock := by
  show ∀ q ∈ tb_M_writeBlock, decode prog_14_method_152_code q.1 = .ok q.2
  decide +kernel
theorem mw_M_writeBlock : mi_w mi_M_writeBlock 1 := ⟨tb_m 2465 (by decide +kernel) (by decide +kernel), tb_m 161 (by decide +kernel) rfl, ⟨by decide +kernel, by decide +kernel, by decide +kernel⟩, by decide +kernel⟩
theorem mv_M_writeBlock : mi_wV mi_M_writeBlock := ⟨tb_m 2463 (by decide +kernel) rfl, tb_m 2464 (by decide +kernel) rfl⟩
def tb_M_outputByte : List (Nat × Instr × Nat) := [(0, .aload_n 0, 1),
  (1, .iconst 0, 1),
  (2, .putfield 55, 3),
  (5, .iload_n 1, 1),
  (6, .iconst 0, 1),
  (7, .aload_n 0, 1),
  (8, .getfield 405, 3),
  (11, .iconst 1, 1),
  (12, .isub, 1),
  (13, .invokestatic 124, 3),
  (16, .ifCond .eq 12, 3),
  (19, .aload_n 0, 1),
  (20, .getfield 42, 3),
  (23, .iload_n 1, 1),
  (24, .iaload, 1),
  (25, .goto 4, 3),
  (28, .iconst (-1), 1),
  (29, .ireturn, 1)]
def mi_M_outputByte : mi_T := ("DataflowLabModel", ({ cls := "DataflowLabModel", name := "outputByte", desc := "(I)I" } : MethodName), prog_14_method_153_code, 2, (Option.some FieldType.int), [], tb_M_outputByte)
theorem mo_M_outputByte : mi_ok mi_M_outputByte := by
  show ∀ q ∈ tb_M_outputByte, decode prog_14_method_153_code q.1 = .ok q.2
  decide +kernel
theorem mw_M_outputByte : mi_w mi_M_outputByte 1 := ⟨tb_m 2496 (by decide +kernel) (by decide +kernel), tb_m 161 (by decide +kernel) rfl, ⟨by decide +kernel, by decide +kernel, by decide +kernel⟩, by decide +kernel⟩
theorem mv_M_outputByte : mi_wV mi_M_outputByte := ⟨tb_m 2494 (by decide +kernel) rfl, tb_m 2495 (by decide +kernel) rfl⟩
def tb_M_undo : List (Nat × Instr × Nat) := [(0, .aload_n 0, 1),
  (1, .iconst 0, 1),
  (2, .putfield 55, 3),
  (5, .aload_n 0, 1),
  (6, .getfield 326, 3),
  (9, .ifCond .ne 10, 3),
  (12, .aload_n 0, 1),
  (13, .iconst 1, 1),
  (14, .putfield 55, 3),
  (17, .iconst 0, 1),
  (18, .ireturn, 1),
  (19, .aload_n 0, 1),
  (20, .dup, 1),
  (21, .getfield 326, 3),
  (24, .iconst 1, 1),
  (25, .isub, 1),
  (26, .putfield 326, 3),
  (29, .aload_n 0, 1),
  (30, .iconst 1, 1),
  (31, .aload_n 0, 1),
  (32, .getfield 326, 3),
  (35, .iadd, 1),
  (36, .iconst 0, 1),
  (37, .invokevirtual 323, 3),
  (40, .aload_n 0, 1),
  (41, .getfield 326, 3),
  (44, .ireturn, 1)]
def mi_M_undo : mi_T := ("DataflowLabModel", ({ cls := "DataflowLabModel", name := "undo", desc := "()I" } : MethodName), prog_14_method_154_code, 1, (Option.some FieldType.int), [], tb_M_undo)
theorem mo_M_undo : mi_ok mi_M_undo := by
  show ∀ q ∈ tb_M_undo, decode prog_14_method_154_code q.1 = .ok q.2
  decide +kernel
theorem mw_M_undo : mi_w mi_M_undo 0 := ⟨tb_m 2500 (by decide +kernel) (by decide +kernel), tb_m 161 (by decide +kernel) rfl, ⟨by decide +kernel, by decide +kernel, by decide +kernel⟩, by decide +kernel⟩
theorem mv_M_undo : mi_wV mi_M_undo := ⟨tb_m 2498 (by decide +kernel) rfl, tb_m 2499 (by decide +kernel) rfl⟩
def tb_M_saveSnapshot : List (Nat × Instr × Nat) := [(0, .aload_n 0, 1),
  (1, .iconst 0, 1),
  (2, .putfield 55, 3),
  (5, .iload_n 1, 1),
  (6, .ifCond .lt 8, 3),
  (9, .iload_n 1, 1),
  (10, .iconst 2, 1),
  (11, .if_icmp .lt 9, 3),
  (14, .aload_n 0, 1),
  (15, .iconst 1, 1),
  (16, .putfield 55, 3),
  (19, .return_, 1),
  (20, .aload_n 0, 1),
  (21, .iconst 0, 1),
  (22, .bipush 7, 2),
  (24, .iload_n 1, 1),
  (25, .iadd, 1),
  (26, .invokevirtual 323, 3),
  (29, .aload_n 0, 1),
  (30, .getfield 13, 3),
  (33, .iload_n 1, 1),
  (34, .iconst 1, 1),
  (35, .bastore, 1),
  (36, .return_, 1)]
def mi_M_saveSnapshot : mi_T := ("DataflowLabModel", ({ cls := "DataflowLabModel", name := "saveSnapshot", desc := "(I)V" } : MethodName), prog_14_method_155_code, 2, (Option.none : Option FieldType), [], tb_M_saveSnapshot)
theorem mo_M_saveSnapshot : mi_ok mi_M_saveSnapshot := by
  show ∀ q ∈ tb_M_saveSnapshot, decode prog_14_method_155_code q.1 = .ok q.2
  decide +kernel
theorem mw_M_saveSnapshot : mi_w mi_M_saveSnapshot 1 := ⟨tb_m 2504 (by decide +kernel) (by decide +kernel), tb_m 161 (by decide +kernel) rfl, ⟨by decide +kernel, by decide +kernel, by decide +kernel⟩, by decide +kernel⟩
theorem mv_M_saveSnapshot : mi_wV mi_M_saveSnapshot := ⟨tb_m 2502 (by decide +kernel) rfl, tb_m 2503 (by decide +kernel) rfl⟩
def tb_M_restoreSnapshot : List (Nat × Instr × Nat) := [(0, .aload_n 0, 1),
  (1, .iconst 0, 1),
  (2, .putfield 55, 3),
  (5, .iload_n 1, 1),
  (6, .ifCond .lt 8, 3),
  (9, .iload_n 1, 1),
  (10, .iconst 2, 1),
  (11, .if_icmp .lt 9, 3),
  (14, .aload_n 0, 1),
  (15, .iconst 1, 1),
  (16, .putfield 55, 3),
  (19, .return_, 1),
  (20, .aload_n 0, 1),
  (21, .getfield 13, 3),
  (24, .iload_n 1, 1),
  (25, .baload, 1),
  (26, .ifCond .ne 9, 3),
  (29, .aload_n 0, 1),
  (30, .iconst 2, 1),
  (31, .putfield 55, 3),
  (34, .return_, 1),
  (35, .aload_n 0, 1),
  (36, .bipush 7, 2),
  (38, .iload_n 1, 1),
  (39, .iadd, 1),
  (40, .iconst 0, 1),
  (41, .invokevirtual 323, 3),
  (44, .aload_n 0, 1),
  (45, .iconst 0, 1),
  (46, .putfield 326, 3),
  (49, .return_, 1)]
def mi_M_restoreSnapshot : mi_T := ("DataflowLabModel", ({ cls := "DataflowLabModel", name := "restoreSnapshot", desc := "(I)V" } : MethodName), prog_14_method_156_code, 2, (Option.none : Option FieldType), [], tb_M_restoreSnapshot)
theorem mo_M_restoreSnapshot : mi_ok mi_M_restoreSnapshot := by
  show ∀ q ∈ tb_M_restoreSnapshot, decode prog_14_method_156_code q.1 = .ok q.2
  decide +kernel
theorem mw_M_restoreSnapshot : mi_w mi_M_restoreSnapshot 1 := ⟨tb_m 2508 (by decide +kernel) (by decide +kernel), tb_m 161 (by decide +kernel) rfl, ⟨by decide +kernel, by decide +kernel, by decide +kernel⟩, by decide +kernel⟩
theorem mv_M_restoreSnapshot : mi_wV mi_M_restoreSnapshot := ⟨tb_m 2506 (by decide +kernel) rfl, tb_m 2507 (by decide +kernel) rfl⟩
def tb_Z_appendText : List (Nat × Instr × Nat) := [(0, .aload_n 2, 1),
  (1, .iconst 0, 1),
  (2, .aload_n 0, 1),
  (3, .iload_n 1, 1),
  (4, .invokevirtual 7, 3),
  (7, .i2l, 1),
  (8, .lastore, 1),
  (9, .goto 6, 3),
  (12, .astore_n 3, 1),
  (13, .iconst 1, 1),
  (14, .ireturn, 1),
  (15, .iconst 0, 1),
  (16, .ireturn, 1)]
def mi_Z_appendText : mi_T := ("DataflowLabLaw", ({ cls := "DataflowLabLaw", name := "appendText", desc := "(LDataflowLab;I[J)I" } : MethodName), method_3_code, 4, (Option.some FieldType.int), [(0, 9, 12, 13)], tb_Z_appendText)
theorem mo_Z_appendText : mi_ok mi_Z_appendText := by
  show ∀ q ∈ tb_Z_appendText, decode method_3_code q.1 = .ok q.2
  decide +kernel
theorem mw_Z_appendText : mi_w mi_Z_appendText 3 := ⟨tb_m 1144 (by decide +kernel) (by decide +kernel), tb_m 143 (by decide +kernel) rfl, ⟨by decide +kernel, by decide +kernel, by decide +kernel⟩, by decide +kernel⟩
theorem mv_Z_appendText : Cond.static (mi_y mi_Z_appendText) ∈ tb_G := tb_m 1143 (by decide +kernel) rfl
def tb_Z_truncateText : List (Nat × Instr × Nat) := [(0, .aload_n 2, 1),
  (1, .iconst 0, 1),
  (2, .aload_n 0, 1),
  (3, .iload_n 1, 1),
  (4, .invokevirtual 15, 3),
  (7, .i2l, 1),
  (8, .lastore, 1),
  (9, .goto 6, 3),
  (12, .astore_n 3, 1),
  (13, .iconst 1, 1),
  (14, .ireturn, 1),
  (15, .iconst 0, 1),
  (16, .ireturn, 1)]
def mi_Z_truncateText : mi_T := ("DataflowLabLaw", ({ cls := "DataflowLabLaw", name := "truncateText", desc := "(LDataflowLab;I[J)I" } : MethodName), method_4_code, 4, (Option.some FieldType.int), [(0, 9, 12, 18)], tb_Z_truncateText)
theorem mo_Z_truncateText : mi_ok mi_Z_truncateText := by
  show ∀ q ∈ tb_Z_truncateText, decode method_4_code q.1 = .ok q.2
  decide +kernel
theorem mw_Z_truncateText : mi_w mi_Z_truncateText 3 := ⟨tb_m 1225 (by decide +kernel) (by decide +kernel), tb_m 143 (by decide +kernel) rfl, ⟨by decide +kernel, by decide +kernel, by decide +kernel⟩, by decide +kernel⟩
theorem mv_Z_truncateText : Cond.static (mi_y mi_Z_truncateText) ∈ tb_G := tb_m 1224 (by decide +kernel) rfl
def tb_Z_instructionsIn : List (Nat × Instr × Nat) := [(0, .aload_n 2, 1),
  (1, .iconst 0, 1),
  (2, .aload_n 0, 1),
  (3, .iload_n 1, 1),
  (4, .invokevirtual 20, 3),
  (7, .i2l, 1),
  (8, .lastore, 1),
  (9, .goto 6, 3),
  (12, .astore_n 3, 1),
  (13, .iconst 1, 1),
  (14, .ireturn, 1),
  (15, .iconst 0, 1),
  (16, .ireturn, 1)]
def mi_Z_instructionsIn : mi_T := ("DataflowLabLaw", ({ cls := "DataflowLabLaw", name := "instructionsIn", desc := "(LDataflowLab;I[J)I" } : MethodName), method_5_code, 4, (Option.some FieldType.int), [(0, 9, 12, 23)], tb_Z_instructionsIn)
theorem mo_Z_instructionsIn : mi_ok mi_Z_instructionsIn := by
  show ∀ q ∈ tb_Z_instructionsIn, decode method_5_code q.1 = .ok q.2
  decide +kernel
theorem mw_Z_instructionsIn : mi_w mi_Z_instructionsIn 3 := ⟨tb_m 1253 (by decide +kernel) (by decide +kernel), tb_m 143 (by decide +kernel) rfl, ⟨by decide +kernel, by decide +kernel, by decide +kernel⟩, by decide +kernel⟩
theorem mv_Z_instructionsIn : Cond.static (mi_y mi_Z_instructionsIn) ∈ tb_G := tb_m 1252 (by decide +kernel) rfl
def tb_Z_blockOf : List (Nat × Instr × Nat) := [(0, .aload_n 2, 1),
  (1, .iconst 0, 1),
  (2, .aload_n 0, 1),
  (3, .iload_n 1, 1),
  (4, .invokevirtual 25, 3),
  (7, .i2l, 1),
  (8, .lastore, 1),
  (9, .goto 6, 3),
  (12, .astore_n 3, 1),
  (13, .iconst 1, 1),
  (14, .ireturn, 1),
  (15, .iconst 0, 1),
  (16, .ireturn, 1)]
def mi_Z_blockOf : mi_T := ("DataflowLabLaw", ({ cls := "DataflowLabLaw", name := "blockOf", desc := "(LDataflowLab;I[J)I" } : MethodName), method_6_code, 4, (Option.some FieldType.int), [(0, 9, 12, 23)], tb_Z_blockOf)
theorem mo_Z_blockOf : mi_ok mi_Z_blockOf := by
  show ∀ q ∈ tb_Z_blockOf, decode method_6_code q.1 = .ok q.2
  decide +kernel
theorem mw_Z_blockOf : mi_w mi_Z_blockOf 3 := ⟨tb_m 1285 (by decide +kernel) (by decide +kernel), tb_m 143 (by decide +kernel) rfl, ⟨by decide +kernel, by decide +kernel, by decide +kernel⟩, by decide +kernel⟩
theorem mv_Z_blockOf : Cond.static (mi_y mi_Z_blockOf) ∈ tb_G := tb_m 1284 (by decide +kernel) rfl
def tb_Z_kindOf : List (Nat × Instr × Nat) := [(0, .aload_n 2, 1),
  (1, .iconst 0, 1),
  (2, .aload_n 0, 1),
  (3, .iload_n 1, 1),
  (4, .invokevirtual 28, 3),
  (7, .i2l, 1),
  (8, .lastore, 1),
  (9, .goto 6, 3),
  (12, .astore_n 3, 1),
  (13, .iconst 1, 1),
  (14, .ireturn, 1),
  (15, .iconst 0, 1),
  (16, .ireturn, 1)]
def mi_Z_kindOf : mi_T := ("DataflowLabLaw", ({ cls := "DataflowLabLaw", name := "kindOf", desc := "(LDataflowLab;I[J)I" } : MethodName), method_7_code, 4, (Option.some FieldType.int), [(0, 9, 12, 23)], tb_Z_kindOf)
theorem mo_Z_kindOf : mi_ok mi_Z_kindOf := by
  show ∀ q ∈ tb_Z_kindOf, decode method_7_code q.1 = .ok q.2
  decide +kernel
theorem mw_Z_kindOf : mi_w mi_Z_kindOf 3 := ⟨tb_m 1298 (by decide +kernel) (by decide +kernel), tb_m 143 (by decide +kernel) rfl, ⟨by decide +kernel, by decide +kernel, by decide +kernel⟩, by decide +kernel⟩
theorem mv_Z_kindOf : Cond.static (mi_y mi_Z_kindOf) ∈ tb_G := tb_m 1297 (by decide +kernel) rfl
def tb_Z_successor : List (Nat × Instr × Nat) := [(0, .aload_n 3, 1),
  (1, .iconst 0, 1),
  (2, .aload_n 0, 1),
  (3, .iload_n 1, 1),
  (4, .iload_n 2, 1),
  (5, .invokevirtual 31, 3),
  (8, .i2l, 1),
  (9, .lastore, 1),
  (10, .goto 11, 3),
  (13, .astore 4, 2),
  (15, .iconst 1, 1),
  (16, .ireturn, 1),
  (17, .astore 4, 2),
  (19, .iconst 2, 1),
  (20, .ireturn, 1),
  (21, .iconst 0, 1),
  (22, .ireturn, 1)]
def mi_Z_successor : mi_T := ("DataflowLabLaw", ({ cls := "DataflowLabLaw", name := "successor", desc := "(LDataflowLab;II[J)I" } : MethodName), method_8_code, 5, (Option.some FieldType.int), [(0, 10, 13, 23), (0, 10, 17, 35)], tb_Z_successor)
theorem mo_Z_successor : mi_ok mi_Z_successor := by
  show ∀ q ∈ tb_Z_successor, decode method_8_code q.1 = .ok q.2
  decide +kernel
theorem mw_Z_successor : mi_w mi_Z_successor 4 := ⟨tb_m 1305 (by decide +kernel) (by decide +kernel), tb_m 143 (by decide +kernel) rfl, ⟨by decide +kernel, by decide +kernel, by decide +kernel⟩, by decide +kernel⟩
theorem mv_Z_successor : Cond.static (mi_y mi_Z_successor) ∈ tb_G := tb_m 1304 (by decide +kernel) rfl
def tb_Z_predecessors : List (Nat × Instr × Nat) := [(0, .aload_n 2, 1),
  (1, .iconst 0, 1),
  (2, .aload_n 0, 1),
  (3, .iload_n 1, 1),
  (4, .invokevirtual 37, 3),
  (7, .i2l, 1),
  (8, .lastore, 1),
  (9, .goto 6, 3),
  (12, .astore_n 3, 1),
  (13, .iconst 1, 1),
  (14, .ireturn, 1),
  (15, .iconst 0, 1),
  (16, .ireturn, 1)]
def mi_Z_predecessors : mi_T := ("DataflowLabLaw", ({ cls := "DataflowLabLaw", name := "predecessors", desc := "(LDataflowLab;I[J)I" } : MethodName), method_9_code, 4, (Option.some FieldType.int), [(0, 9, 12, 23)], tb_Z_predecessors)
theorem mo_Z_predecessors : mi_ok mi_Z_predecessors := by
  show ∀ q ∈ tb_Z_predecessors, decode method_9_code q.1 = .ok q.2
  decide +kernel
theorem mw_Z_predecessors : mi_w mi_Z_predecessors 3 := ⟨tb_m 1331 (by decide +kernel) (by decide +kernel), tb_m 143 (by decide +kernel) rfl, ⟨by decide +kernel, by decide +kernel, by decide +kernel⟩, by decide +kernel⟩
theorem mv_Z_predecessors : Cond.static (mi_y mi_Z_predecessors) ∈ tb_G := tb_m 1330 (by decide +kernel) rfl
def tb_Z_isReachable : List (Nat × Instr × Nat) := [(0, .aload_n 2, 1),
  (1, .iconst 0, 1),
  (2, .aload_n 0, 1),
  (3, .iload_n 1, 1),
  (4, .invokevirtual 40, 3),
  (7, .ifCond .eq 7, 3),
  (10, .lconst 1, 1),
  (11, .goto 4, 3),
  (14, .lconst 0, 1),
  (15, .lastore, 1),
  (16, .goto 6, 3),
  (19, .astore_n 3, 1),
  (20, .iconst 1, 1),
  (21, .ireturn, 1),
  (22, .iconst 0, 1),
  (23, .ireturn, 1)]
def mi_Z_isReachable : mi_T := ("DataflowLabLaw", ({ cls := "DataflowLabLaw", name := "isReachable", desc := "(LDataflowLab;I[J)I" } : MethodName), method_10_code, 4, (Option.some FieldType.int), [(0, 16, 19, 23)], tb_Z_isReachable)
theorem mo_Z_isReachable : mi_ok mi_Z_isReachable := by
  show ∀ q ∈ tb_Z_isReachable, decode method_10_code q.1 = .ok q.2
  decide +kernel
theorem mw_Z_isReachable : mi_w mi_Z_isReachable 3 := ⟨tb_m 1343 (by decide +kernel) (by decide +kernel), tb_m 143 (by decide +kernel) rfl, ⟨by decide +kernel, by decide +kernel, by decide +kernel⟩, by decide +kernel⟩
theorem mv_Z_isReachable : Cond.static (mi_y mi_Z_isReachable) ∈ tb_G := tb_m 1342 (by decide +kernel) rfl
def tb_Z_distanceTo : List (Nat × Instr × Nat) := [(0, .aload_n 2, 1),
  (1, .iconst 0, 1),
  (2, .aload_n 0, 1),
  (3, .iload_n 1, 1),
  (4, .invokevirtual 44, 3),
  (7, .i2l, 1),
  (8, .lastore, 1),
  (9, .goto 6, 3),
  (12, .astore_n 3, 1),
  (13, .iconst 1, 1),
  (14, .ireturn, 1),
  (15, .iconst 0, 1),
  (16, .ireturn, 1)]
def mi_Z_distanceTo : mi_T := ("DataflowLabLaw", ({ cls := "DataflowLabLaw", name := "distanceTo", desc := "(LDataflowLab;I[J)I" } : MethodName), method_11_code, 4, (Option.some FieldType.int), [(0, 9, 12, 23)], tb_Z_distanceTo)
theorem mo_Z_distanceTo : mi_ok mi_Z_distanceTo := by
  show ∀ q ∈ tb_Z_distanceTo, decode method_11_code q.1 = .ok q.2
  decide +kernel
theorem mw_Z_distanceTo : mi_w mi_Z_distanceTo 3 := ⟨tb_m 1351 (by decide +kernel) (by decide +kernel), tb_m 143 (by decide +kernel) rfl, ⟨by decide +kernel, by decide +kernel, by decide +kernel⟩, by decide +kernel⟩
theorem mv_Z_distanceTo : Cond.static (mi_y mi_Z_distanceTo) ∈ tb_G := tb_m 1350 (by decide +kernel) rfl
def tb_Z_reaches : List (Nat × Instr × Nat) := [(0, .aload_n 3, 1),
  (1, .iconst 0, 1),
  (2, .aload_n 0, 1),
  (3, .iload_n 1, 1),
  (4, .iload_n 2, 1),
  (5, .invokevirtual 47, 3),
  (8, .ifCond .eq 7, 3),
  (11, .lconst 1, 1),
  (12, .goto 4, 3),
  (15, .lconst 0, 1),
  (16, .lastore, 1),
  (17, .goto 7, 3),
  (20, .astore 4, 2),
  (22, .iconst 1, 1),
  (23, .ireturn, 1),
  (24, .iconst 0, 1),
  (25, .ireturn, 1)]
def mi_Z_reaches : mi_T := ("DataflowLabLaw", ({ cls := "DataflowLabLaw", name := "reaches", desc := "(LDataflowLab;II[J)I" } : MethodName), method_12_code, 5, (Option.some FieldType.int), [(0, 17, 20, 23)], tb_Z_reaches)
theorem mo_Z_reaches : mi_ok mi_Z_reaches := by
  show ∀ q ∈ tb_Z_reaches, decode method_12_code q.1 = .ok q.2
  decide +kernel
theorem mw_Z_reaches : mi_w mi_Z_reaches 4 := ⟨tb_m 1362 (by decide +kernel) (by decide +kernel), tb_m 143 (by decide +kernel) rfl, ⟨by decide +kernel, by decide +kernel, by decide +kernel⟩, by decide +kernel⟩
theorem mv_Z_reaches : Cond.static (mi_y mi_Z_reaches) ∈ tb_G := tb_m 1361 (by decide +kernel) rfl
def tb_Z_reachingDefinitions : List (Nat × Instr × Nat) := [(0, .aload_n 3, 1),
  (1, .iconst 0, 1),
  (2, .aload_n 0, 1),
  (3, .iload_n 1, 1),
  (4, .iload_n 2, 1),
  (5, .invokevirtual 51, 3),
  (8, .i2l, 1),
  (9, .lastore, 1),
  (10, .goto 11, 3),
  (13, .astore 4, 2),
  (15, .iconst 1, 1),
  (16, .ireturn, 1),
  (17, .astore 4, 2),
  (19, .iconst 2, 1),
  (20, .ireturn, 1),
  (21, .iconst 0, 1),
  (22, .ireturn, 1)]
def mi_Z_reachingDefinitions : mi_T := ("DataflowLabLaw", ({ cls := "DataflowLabLaw", name := "reachingDefinitions", desc := "(LDataflowLab;II[J)I" } : MethodName), method_13_code, 5, (Option.some FieldType.int), [(0, 10, 13, 23), (0, 10, 17, 18)], tb_Z_reachingDefinitions)
theorem mo_Z_reachingDefinitions : mi_ok mi_Z_reachingDefinitions := by
  show ∀ q ∈ tb_Z_reachingDefinitions, decode method_13_code q.1 = .ok q.2
  decide +kernel
theorem mw_Z_reachingDefinitions : mi_w mi_Z_reachingDefinitions 4 := ⟨tb_m 1375 (by decide +kernel) (by decide +kernel), tb_m 143 (by decide +kernel) rfl, ⟨by decide +kernel, by decide +kernel, by decide +kernel⟩, by decide +kernel⟩
theorem mv_Z_reachingDefinitions : Cond.static (mi_y mi_Z_reachingDefinitions) ∈ tb_G := tb_m 1374 (by decide +kernel) rfl
def tb_Z_isInitialReaching : List (Nat × Instr × Nat) := [(0, .aload_n 3, 1),
  (1, .iconst 0, 1),
  (2, .aload_n 0, 1),
  (3, .iload_n 1, 1),
  (4, .iload_n 2, 1),
  (5, .invokevirtual 54, 3),
  (8, .ifCond .eq 7, 3),
  (11, .lconst 1, 1),
  (12, .goto 4, 3),
  (15, .lconst 0, 1),
  (16, .lastore, 1),
  (17, .goto 11, 3),
  (20, .astore 4, 2),
  (22, .iconst 1, 1),
  (23, .ireturn, 1),
  (24, .astore 4, 2),
  (26, .iconst 2, 1),
  (27, .ireturn, 1),
  (28, .iconst 0, 1),
  (29, .ireturn, 1)]
def mi_Z_isInitialReaching : mi_T := ("DataflowLabLaw", ({ cls := "DataflowLabLaw", name := "isInitialReaching", desc := "(LDataflowLab;II[J)I" } : MethodName), method_14_code, 5, (Option.some FieldType.int), [(0, 17, 20, 23), (0, 17, 24, 18)], tb_Z_isInitialReaching)
theorem mo_Z_isInitialReaching : mi_ok mi_Z_isInitialReaching := by
  show ∀ q ∈ tb_Z_isInitialReaching, decode method_14_code q.1 = .ok q.2
  decide +kernel
theorem mw_Z_isInitialReaching : mi_w mi_Z_isInitialReaching 4 := ⟨tb_m 1396 (by decide +kernel) (by decide +kernel), tb_m 143 (by decide +kernel) rfl, ⟨by decide +kernel, by decide +kernel, by decide +kernel⟩, by decide +kernel⟩
theorem mv_Z_isInitialReaching : Cond.static (mi_y mi_Z_isInitialReaching) ∈ tb_G := tb_m 1395 (by decide +kernel) rfl
def tb_Z_usesOf : List (Nat × Instr × Nat) := [(0, .aload_n 2, 1),
  (1, .iconst 0, 1),
  (2, .aload_n 0, 1),
  (3, .iload_n 1, 1),
  (4, .invokevirtual 57, 3),
  (7, .i2l, 1),
  (8, .lastore, 1),
  (9, .goto 6, 3),
  (12, .astore_n 3, 1),
  (13, .iconst 1, 1),
  (14, .ireturn, 1),
  (15, .iconst 0, 1),
  (16, .ireturn, 1)]
def mi_Z_usesOf : mi_T := ("DataflowLabLaw", ({ cls := "DataflowLabLaw", name := "usesOf", desc := "(LDataflowLab;I[J)I" } : MethodName), method_15_code, 4, (Option.some FieldType.int), [(0, 9, 12, 23)], tb_Z_usesOf)
theorem mo_Z_usesOf : mi_ok mi_Z_usesOf := by
  show ∀ q ∈ tb_Z_usesOf, decode method_15_code q.1 = .ok q.2
  decide +kernel
theorem mw_Z_usesOf : mi_w mi_Z_usesOf 3 := ⟨tb_m 1404 (by decide +kernel) (by decide +kernel), tb_m 143 (by decide +kernel) rfl, ⟨by decide +kernel, by decide +kernel, by decide +kernel⟩, by decide +kernel⟩
theorem mv_Z_usesOf : Cond.static (mi_y mi_Z_usesOf) ∈ tb_G := tb_m 1403 (by decide +kernel) rfl
def tb_Z_onlyDefinition : List (Nat × Instr × Nat) := [(0, .aload_n 3, 1),
  (1, .iconst 0, 1),
  (2, .aload_n 0, 1),
  (3, .iload_n 1, 1),
  (4, .iload_n 2, 1),
  (5, .invokevirtual 60, 3),
  (8, .i2l, 1),
  (9, .lastore, 1),
  (10, .goto 11, 3),
  (13, .astore 4, 2),
  (15, .iconst 1, 1),
  (16, .ireturn, 1),
  (17, .astore 4, 2),
  (19, .iconst 2, 1),
  (20, .ireturn, 1),
  (21, .iconst 0, 1),
  (22, .ireturn, 1)]
def mi_Z_onlyDefinition : mi_T := ("DataflowLabLaw", ({ cls := "DataflowLabLaw", name := "onlyDefinition", desc := "(LDataflowLab;II[J)I" } : MethodName), method_16_code, 5, (Option.some FieldType.int), [(0, 10, 13, 23), (0, 10, 17, 35)], tb_Z_onlyDefinition)
theorem mo_Z_onlyDefinition : mi_ok mi_Z_onlyDefinition := by
  show ∀ q ∈ tb_Z_onlyDefinition, decode method_16_code q.1 = .ok q.2
  decide +kernel
theorem mw_Z_onlyDefinition : mi_w mi_Z_onlyDefinition 4 := ⟨tb_m 1417 (by decide +kernel) (by decide +kernel), tb_m 143 (by decide +kernel) rfl, ⟨by decide +kernel, by decide +kernel, by decide +kernel⟩, by decide +kernel⟩
theorem mv_Z_onlyDefinition : Cond.static (mi_y mi_Z_onlyDefinition) ∈ tb_G := tb_m 1416 (by decide +kernel) rfl
def tb_Z_isLiveIn : List (Nat × Instr × Nat) := [(0, .aload_n 3, 1),
  (1, .iconst 0, 1),
  (2, .aload_n 0, 1),
  (3, .iload_n 1, 1),
  (4, .iload_n 2, 1),
  (5, .invokevirtual 63, 3),
  (8, .ifCond .eq 7, 3),
  (11, .lconst 1, 1),
  (12, .goto 4, 3),
  (15, .lconst 0, 1),
  (16, .lastore, 1),
  (17, .goto 11, 3),
  (20, .astore 4, 2),
  (22, .iconst 1, 1),
  (23, .ireturn, 1),
  (24, .astore 4, 2),
  (26, .iconst 2, 1),
  (27, .ireturn, 1),
  (28, .iconst 0, 1),
  (29, .ireturn, 1)]
def mi_Z_isLiveIn : mi_T := ("DataflowLabLaw", ({ cls := "DataflowLabLaw", name := "isLiveIn", desc := "(LDataflowLab;II[J)I" } : MethodName), method_17_code, 5, (Option.some FieldType.int), [(0, 17, 20, 23), (0, 17, 24, 18)], tb_Z_isLiveIn)
theorem mo_Z_isLiveIn : mi_ok mi_Z_isLiveIn := by
  show ∀ q ∈ tb_Z_isLiveIn, decode method_17_code q.1 = .ok q.2
  decide +kernel
theorem mw_Z_isLiveIn : mi_w mi_Z_isLiveIn 4 := ⟨tb_m 1432 (by decide +kernel) (by decide +kernel), tb_m 143 (by decide +kernel) rfl, ⟨by decide +kernel, by decide +kernel, by decide +kernel⟩, by decide +kernel⟩
theorem mv_Z_isLiveIn : Cond.static (mi_y mi_Z_isLiveIn) ∈ tb_G := tb_m 1431 (by decide +kernel) rfl
def tb_Z_isLiveOut : List (Nat × Instr × Nat) := [(0, .aload_n 3, 1),
  (1, .iconst 0, 1),
  (2, .aload_n 0, 1),
  (3, .iload_n 1, 1),
  (4, .iload_n 2, 1),
  (5, .invokevirtual 66, 3),
  (8, .ifCond .eq 7, 3),
  (11, .lconst 1, 1),
  (12, .goto 4, 3),
  (15, .lconst 0, 1),
  (16, .lastore, 1),
  (17, .goto 11, 3),
  (20, .astore 4, 2),
  (22, .iconst 1, 1),
  (23, .ireturn, 1),
  (24, .astore 4, 2),
  (26, .iconst 2, 1),
  (27, .ireturn, 1),
  (28, .iconst 0, 1),
  (29, .ireturn, 1)]
def mi_Z_isLiveOut : mi_T := ("DataflowLabLaw", ({ cls := "DataflowLabLaw", name := "isLiveOut", desc := "(LDataflowLab;II[J)I" } : MethodName), method_18_code, 5, (Option.some FieldType.int), [(0, 17, 20, 23), (0, 17, 24, 18)], tb_Z_isLiveOut)
theorem mo_Z_isLiveOut : mi_ok mi_Z_isLiveOut := by
  show ∀ q ∈ tb_Z_isLiveOut, decode method_18_code q.1 = .ok q.2
  decide +kernel
theorem mw_Z_isLiveOut : mi_w mi_Z_isLiveOut 4 := ⟨tb_m 1443 (by decide +kernel) (by decide +kernel), tb_m 143 (by decide +kernel) rfl, ⟨by decide +kernel, by decide +kernel, by decide +kernel⟩, by decide +kernel⟩
theorem mv_Z_isLiveOut : Cond.static (mi_y mi_Z_isLiveOut) ∈ tb_G := tb_m 1442 (by decide +kernel) rfl
def tb_Z_liveBefore : List (Nat × Instr × Nat) := [(0, .aload_n 2, 1),
  (1, .iconst 0, 1),
  (2, .aload_n 0, 1),
  (3, .iload_n 1, 1),
  (4, .invokevirtual 69, 3),
  (7, .i2l, 1),
  (8, .lastore, 1),
  (9, .goto 6, 3),
  (12, .astore_n 3, 1),
  (13, .iconst 1, 1),
  (14, .ireturn, 1),
  (15, .iconst 0, 1),
  (16, .ireturn, 1)]
def mi_Z_liveBefore : mi_T := ("DataflowLabLaw", ({ cls := "DataflowLabLaw", name := "liveBefore", desc := "(LDataflowLab;I[J)I" } : MethodName), method_19_code, 4, (Option.some FieldType.int), [(0, 9, 12, 23)], tb_Z_liveBefore)
theorem mo_Z_liveBefore : mi_ok mi_Z_liveBefore := by
  show ∀ q ∈ tb_Z_liveBefore, decode method_19_code q.1 = .ok q.2
  decide +kernel
theorem mw_Z_liveBefore : mi_w mi_Z_liveBefore 3 := ⟨tb_m 1455 (by decide +kernel) (by decide +kernel), tb_m 143 (by decide +kernel) rfl, ⟨by decide +kernel, by decide +kernel, by decide +kernel⟩, by decide +kernel⟩
theorem mv_Z_liveBefore : Cond.static (mi_y mi_Z_liveBefore) ∈ tb_G := tb_m 1454 (by decide +kernel) rfl
def tb_Z_isDead : List (Nat × Instr × Nat) := [(0, .aload_n 2, 1),
  (1, .iconst 0, 1),
  (2, .aload_n 0, 1),
  (3, .iload_n 1, 1),
  (4, .invokevirtual 72, 3),
  (7, .ifCond .eq 7, 3),
  (10, .lconst 1, 1),
  (11, .goto 4, 3),
  (14, .lconst 0, 1),
  (15, .lastore, 1),
  (16, .goto 6, 3),
  (19, .astore_n 3, 1),
  (20, .iconst 1, 1),
  (21, .ireturn, 1),
  (22, .iconst 0, 1),
  (23, .ireturn, 1)]
def mi_Z_isDead : mi_T := ("DataflowLabLaw", ({ cls := "DataflowLabLaw", name := "isDead", desc := "(LDataflowLab;I[J)I" } : MethodName), method_20_code, 4, (Option.some FieldType.int), [(0, 16, 19, 23)], tb_Z_isDead)
theorem mo_Z_isDead : mi_ok mi_Z_isDead := by
  show ∀ q ∈ tb_Z_isDead, decode method_20_code q.1 = .ok q.2
  decide +kernel
theorem mw_Z_isDead : mi_w mi_Z_isDead 3 := ⟨tb_m 1462 (by decide +kernel) (by decide +kernel), tb_m 143 (by decide +kernel) rfl, ⟨by decide +kernel, by decide +kernel, by decide +kernel⟩, by decide +kernel⟩
theorem mv_Z_isDead : Cond.static (mi_y mi_Z_isDead) ∈ tb_G := tb_m 1461 (by decide +kernel) rfl
def tb_Z_interfere : List (Nat × Instr × Nat) := [(0, .aload_n 3, 1),
  (1, .iconst 0, 1),
  (2, .aload_n 0, 1),
  (3, .iload_n 1, 1),
  (4, .iload_n 2, 1),
  (5, .invokevirtual 75, 3),
  (8, .ifCond .eq 7, 3),
  (11, .lconst 1, 1),
  (12, .goto 4, 3),
  (15, .lconst 0, 1),
  (16, .lastore, 1),
  (17, .goto 7, 3),
  (20, .astore 4, 2),
  (22, .iconst 1, 1),
  (23, .ireturn, 1),
  (24, .iconst 0, 1),
  (25, .ireturn, 1)]
def mi_Z_interfere : mi_T := ("DataflowLabLaw", ({ cls := "DataflowLabLaw", name := "interfere", desc := "(LDataflowLab;II[J)I" } : MethodName), method_21_code, 5, (Option.some FieldType.int), [(0, 17, 20, 18)], tb_Z_interfere)
theorem mo_Z_interfere : mi_ok mi_Z_interfere := by
  show ∀ q ∈ tb_Z_interfere, decode method_21_code q.1 = .ok q.2
  decide +kernel
theorem mw_Z_interfere : mi_w mi_Z_interfere 4 := ⟨tb_m 1469 (by decide +kernel) (by decide +kernel), tb_m 143 (by decide +kernel) rfl, ⟨by decide +kernel, by decide +kernel, by decide +kernel⟩, by decide +kernel⟩
theorem mv_Z_interfere : Cond.static (mi_y mi_Z_interfere) ∈ tb_G := tb_m 1468 (by decide +kernel) rfl
def tb_Z_isRedundant : List (Nat × Instr × Nat) := [(0, .aload_n 2, 1),
  (1, .iconst 0, 1),
  (2, .aload_n 0, 1),
  (3, .iload_n 1, 1),
  (4, .invokevirtual 78, 3),
  (7, .ifCond .eq 7, 3),
  (10, .lconst 1, 1),
  (11, .goto 4, 3),
  (14, .lconst 0, 1),
  (15, .lastore, 1),
  (16, .goto 6, 3),
  (19, .astore_n 3, 1),
  (20, .iconst 1, 1),
  (21, .ireturn, 1),
  (22, .iconst 0, 1),
  (23, .ireturn, 1)]
def mi_Z_isRedundant : mi_T := ("DataflowLabLaw", ({ cls := "DataflowLabLaw", name := "isRedundant", desc := "(LDataflowLab;I[J)I" } : MethodName), method_22_code, 4, (Option.some FieldType.int), [(0, 16, 19, 23)], tb_Z_isRedundant)
theorem mo_Z_isRedundant : mi_ok mi_Z_isRedundant := by
  show ∀ q ∈ tb_Z_isRedundant, decode method_22_code q.1 = .ok q.2
  decide +kernel
theorem mw_Z_isRedundant : mi_w mi_Z_isRedundant 3 := ⟨tb_m 1482 (by decide +kernel) (by decide +kernel), tb_m 143 (by decide +kernel) rfl, ⟨by decide +kernel, by decide +kernel, by decide +kernel⟩, by decide +kernel⟩
theorem mv_Z_isRedundant : Cond.static (mi_y mi_Z_isRedundant) ∈ tb_G := tb_m 1481 (by decide +kernel) rfl
def tb_Z_availableAt : List (Nat × Instr × Nat) := [(0, .aload_n 2, 1),
  (1, .iconst 0, 1),
  (2, .aload_n 0, 1),
  (3, .iload_n 1, 1),
  (4, .invokevirtual 81, 3),
  (7, .i2l, 1),
  (8, .lastore, 1),
  (9, .goto 6, 3),
  (12, .astore_n 3, 1),
  (13, .iconst 1, 1),
  (14, .ireturn, 1),
  (15, .iconst 0, 1),
  (16, .ireturn, 1)]
def mi_Z_availableAt : mi_T := ("DataflowLabLaw", ({ cls := "DataflowLabLaw", name := "availableAt", desc := "(LDataflowLab;I[J)I" } : MethodName), method_23_code, 4, (Option.some FieldType.int), [(0, 9, 12, 23)], tb_Z_availableAt)
theorem mo_Z_availableAt : mi_ok mi_Z_availableAt := by
  show ∀ q ∈ tb_Z_availableAt, decode method_23_code q.1 = .ok q.2
  decide +kernel
theorem mw_Z_availableAt : mi_w mi_Z_availableAt 3 := ⟨tb_m 1490 (by decide +kernel) (by decide +kernel), tb_m 143 (by decide +kernel) rfl, ⟨by decide +kernel, by decide +kernel, by decide +kernel⟩, by decide +kernel⟩
theorem mv_Z_availableAt : Cond.static (mi_y mi_Z_availableAt) ∈ tb_G := tb_m 1489 (by decide +kernel) rfl
def tb_Z_dominates : List (Nat × Instr × Nat) := [(0, .aload_n 3, 1),
  (1, .iconst 0, 1),
  (2, .aload_n 0, 1),
  (3, .iload_n 1, 1),
  (4, .iload_n 2, 1),
  (5, .invokevirtual 84, 3),
  (8, .ifCond .eq 7, 3),
  (11, .lconst 1, 1),
  (12, .goto 4, 3),
  (15, .lconst 0, 1),
  (16, .lastore, 1),
  (17, .goto 7, 3),
  (20, .astore 4, 2),
  (22, .iconst 1, 1),
  (23, .ireturn, 1),
  (24, .iconst 0, 1),
  (25, .ireturn, 1)]
def mi_Z_dominates : mi_T := ("DataflowLabLaw", ({ cls := "DataflowLabLaw", name := "dominates", desc := "(LDataflowLab;II[J)I" } : MethodName), method_24_code, 5, (Option.some FieldType.int), [(0, 17, 20, 23)], tb_Z_dominates)
theorem mo_Z_dominates : mi_ok mi_Z_dominates := by
  show ∀ q ∈ tb_Z_dominates, decode method_24_code q.1 = .ok q.2
  decide +kernel
theorem mw_Z_dominates : mi_w mi_Z_dominates 4 := ⟨tb_m 1501 (by decide +kernel) (by decide +kernel), tb_m 143 (by decide +kernel) rfl, ⟨by decide +kernel, by decide +kernel, by decide +kernel⟩, by decide +kernel⟩
theorem mv_Z_dominates : Cond.static (mi_y mi_Z_dominates) ∈ tb_G := tb_m 1500 (by decide +kernel) rfl
def tb_Z_immediateDominator : List (Nat × Instr × Nat) := [(0, .aload_n 2, 1),
  (1, .iconst 0, 1),
  (2, .aload_n 0, 1),
  (3, .iload_n 1, 1),
  (4, .invokevirtual 87, 3),
  (7, .i2l, 1),
  (8, .lastore, 1),
  (9, .goto 6, 3),
  (12, .astore_n 3, 1),
  (13, .iconst 1, 1),
  (14, .ireturn, 1),
  (15, .iconst 0, 1),
  (16, .ireturn, 1)]
def mi_Z_immediateDominator : mi_T := ("DataflowLabLaw", ({ cls := "DataflowLabLaw", name := "immediateDominator", desc := "(LDataflowLab;I[J)I" } : MethodName), method_25_code, 4, (Option.some FieldType.int), [(0, 9, 12, 23)], tb_Z_immediateDominator)
theorem mo_Z_immediateDominator : mi_ok mi_Z_immediateDominator := by
  show ∀ q ∈ tb_Z_immediateDominator, decode method_25_code q.1 = .ok q.2
  decide +kernel
theorem mw_Z_immediateDominator : mi_w mi_Z_immediateDominator 3 := ⟨tb_m 1512 (by decide +kernel) (by decide +kernel), tb_m 143 (by decide +kernel) rfl, ⟨by decide +kernel, by decide +kernel, by decide +kernel⟩, by decide +kernel⟩
theorem mv_Z_immediateDominator : Cond.static (mi_y mi_Z_immediateDominator) ∈ tb_G := tb_m 1511 (by decide +kernel) rfl
def tb_Z_commonDominator : List (Nat × Instr × Nat) := [(0, .aload_n 3, 1),
  (1, .iconst 0, 1),
  (2, .aload_n 0, 1),
  (3, .iload_n 1, 1),
  (4, .iload_n 2, 1),
  (5, .invokevirtual 90, 3),
  (8, .i2l, 1),
  (9, .lastore, 1),
  (10, .goto 7, 3),
  (13, .astore 4, 2),
  (15, .iconst 1, 1),
  (16, .ireturn, 1),
  (17, .iconst 0, 1),
  (18, .ireturn, 1)]
def mi_Z_commonDominator : mi_T := ("DataflowLabLaw", ({ cls := "DataflowLabLaw", name := "commonDominator", desc := "(LDataflowLab;II[J)I" } : MethodName), method_26_code, 5, (Option.some FieldType.int), [(0, 10, 13, 23)], tb_Z_commonDominator)
theorem mo_Z_commonDominator : mi_ok mi_Z_commonDominator := by
  show ∀ q ∈ tb_Z_commonDominator, decode method_26_code q.1 = .ok q.2
  decide +kernel
theorem mw_Z_commonDominator : mi_w mi_Z_commonDominator 4 := ⟨tb_m 1523 (by decide +kernel) (by decide +kernel), tb_m 143 (by decide +kernel) rfl, ⟨by decide +kernel, by decide +kernel, by decide +kernel⟩, by decide +kernel⟩
theorem mv_Z_commonDominator : Cond.static (mi_y mi_Z_commonDominator) ∈ tb_G := tb_m 1522 (by decide +kernel) rfl
def tb_Z_loopSize : List (Nat × Instr × Nat) := [(0, .aload_n 2, 1),
  (1, .iconst 0, 1),
  (2, .aload_n 0, 1),
  (3, .iload_n 1, 1),
  (4, .invokevirtual 93, 3),
  (7, .i2l, 1),
  (8, .lastore, 1),
  (9, .goto 6, 3),
  (12, .astore_n 3, 1),
  (13, .iconst 1, 1),
  (14, .ireturn, 1),
  (15, .iconst 0, 1),
  (16, .ireturn, 1)]
def mi_Z_loopSize : mi_T := ("DataflowLabLaw", ({ cls := "DataflowLabLaw", name := "loopSize", desc := "(LDataflowLab;I[J)I" } : MethodName), method_27_code, 4, (Option.some FieldType.int), [(0, 9, 12, 23)], tb_Z_loopSize)
theorem mo_Z_loopSize : mi_ok mi_Z_loopSize := by
  show ∀ q ∈ tb_Z_loopSize, decode method_27_code q.1 = .ok q.2
  decide +kernel
theorem mw_Z_loopSize : mi_w mi_Z_loopSize 3 := ⟨tb_m 1530 (by decide +kernel) (by decide +kernel), tb_m 143 (by decide +kernel) rfl, ⟨by decide +kernel, by decide +kernel, by decide +kernel⟩, by decide +kernel⟩
theorem mv_Z_loopSize : Cond.static (mi_y mi_Z_loopSize) ∈ tb_G := tb_m 1529 (by decide +kernel) rfl
def tb_Z_loopDepth : List (Nat × Instr × Nat) := [(0, .aload_n 2, 1),
  (1, .iconst 0, 1),
  (2, .aload_n 0, 1),
  (3, .iload_n 1, 1),
  (4, .invokevirtual 96, 3),
  (7, .i2l, 1),
  (8, .lastore, 1),
  (9, .goto 6, 3),
  (12, .astore_n 3, 1),
  (13, .iconst 1, 1),
  (14, .ireturn, 1),
  (15, .iconst 0, 1),
  (16, .ireturn, 1)]
def mi_Z_loopDepth : mi_T := ("DataflowLabLaw", ({ cls := "DataflowLabLaw", name := "loopDepth", desc := "(LDataflowLab;I[J)I" } : MethodName), method_28_code, 4, (Option.some FieldType.int), [(0, 9, 12, 23)], tb_Z_loopDepth)
theorem mo_Z_loopDepth : mi_ok mi_Z_loopDepth := by
  show ∀ q ∈ tb_Z_loopDepth, decode method_28_code q.1 = .ok q.2
  decide +kernel
theorem mw_Z_loopDepth : mi_w mi_Z_loopDepth 3 := ⟨tb_m 1541 (by decide +kernel) (by decide +kernel), tb_m 143 (by decide +kernel) rfl, ⟨by decide +kernel, by decide +kernel, by decide +kernel⟩, by decide +kernel⟩
theorem mv_Z_loopDepth : Cond.static (mi_y mi_Z_loopDepth) ∈ tb_G := tb_m 1540 (by decide +kernel) rfl
def tb_Z_constantAt : List (Nat × Instr × Nat) := [(0, .aload_n 3, 1),
  (1, .iconst 0, 1),
  (2, .aload_n 0, 1),
  (3, .iload_n 1, 1),
  (4, .iload_n 2, 1),
  (5, .invokevirtual 99, 3),
  (8, .i2l, 1),
  (9, .lastore, 1),
  (10, .goto 11, 3),
  (13, .astore 4, 2),
  (15, .iconst 1, 1),
  (16, .ireturn, 1),
  (17, .astore 4, 2),
  (19, .iconst 2, 1),
  (20, .ireturn, 1),
  (21, .iconst 0, 1),
  (22, .ireturn, 1)]
def mi_Z_constantAt : mi_T := ("DataflowLabLaw", ({ cls := "DataflowLabLaw", name := "constantAt", desc := "(LDataflowLab;II[J)I" } : MethodName), method_29_code, 5, (Option.some FieldType.int), [(0, 10, 13, 23), (0, 10, 17, 18)], tb_Z_constantAt)
theorem mo_Z_constantAt : mi_ok mi_Z_constantAt := by
  show ∀ q ∈ tb_Z_constantAt, decode method_29_code q.1 = .ok q.2
  decide +kernel
theorem mw_Z_constantAt : mi_w mi_Z_constantAt 4 := ⟨tb_m 1552 (by decide +kernel) (by decide +kernel), tb_m 143 (by decide +kernel) rfl, ⟨by decide +kernel, by decide +kernel, by decide +kernel⟩, by decide +kernel⟩
theorem mv_Z_constantAt : Cond.static (mi_y mi_Z_constantAt) ∈ tb_G := tb_m 1551 (by decide +kernel) rfl
def tb_Z_constantOf : List (Nat × Instr × Nat) := [(0, .aload_n 2, 1),
  (1, .iconst 0, 1),
  (2, .aload_n 0, 1),
  (3, .iload_n 1, 1),
  (4, .invokevirtual 102, 3),
  (7, .i2l, 1),
  (8, .lastore, 1),
  (9, .goto 6, 3),
  (12, .astore_n 3, 1),
  (13, .iconst 1, 1),
  (14, .ireturn, 1),
  (15, .iconst 0, 1),
  (16, .ireturn, 1)]
def mi_Z_constantOf : mi_T := ("DataflowLabLaw", ({ cls := "DataflowLabLaw", name := "constantOf", desc := "(LDataflowLab;I[J)I" } : MethodName), method_30_code, 4, (Option.some FieldType.int), [(0, 9, 12, 23)], tb_Z_constantOf)
theorem mo_Z_constantOf : mi_ok mi_Z_constantOf := by
  show ∀ q ∈ tb_Z_constantOf, decode method_30_code q.1 = .ok q.2
  decide +kernel
theorem mw_Z_constantOf : mi_w mi_Z_constantOf 3 := ⟨tb_m 1560 (by decide +kernel) (by decide +kernel), tb_m 143 (by decide +kernel) rfl, ⟨by decide +kernel, by decide +kernel, by decide +kernel⟩, by decide +kernel⟩
theorem mv_Z_constantOf : Cond.static (mi_y mi_Z_constantOf) ∈ tb_G := tb_m 1559 (by decide +kernel) rfl
def tb_Z_runSteps : List (Nat × Instr × Nat) := [(0, .aload_n 2, 1),
  (1, .iconst 0, 1),
  (2, .aload_n 0, 1),
  (3, .iload_n 1, 1),
  (4, .invokevirtual 105, 3),
  (7, .i2l, 1),
  (8, .lastore, 1),
  (9, .goto 6, 3),
  (12, .astore_n 3, 1),
  (13, .iconst 1, 1),
  (14, .ireturn, 1),
  (15, .iconst 0, 1),
  (16, .ireturn, 1)]
def mi_Z_runSteps : mi_T := ("DataflowLabLaw", ({ cls := "DataflowLabLaw", name := "runSteps", desc := "(LDataflowLab;I[J)I" } : MethodName), method_31_code, 4, (Option.some FieldType.int), [(0, 9, 12, 18)], tb_Z_runSteps)
theorem mo_Z_runSteps : mi_ok mi_Z_runSteps := by
  show ∀ q ∈ tb_Z_runSteps, decode method_31_code q.1 = .ok q.2
  decide +kernel
theorem mw_Z_runSteps : mi_w mi_Z_runSteps 3 := ⟨tb_m 1567 (by decide +kernel) (by decide +kernel), tb_m 143 (by decide +kernel) rfl, ⟨by decide +kernel, by decide +kernel, by decide +kernel⟩, by decide +kernel⟩
theorem mv_Z_runSteps : Cond.static (mi_y mi_Z_runSteps) ∈ tb_G := tb_m 1566 (by decide +kernel) rfl
def tb_Z_runEnds : List (Nat × Instr × Nat) := [(0, .aload_n 2, 1),
  (1, .iconst 0, 1),
  (2, .aload_n 0, 1),
  (3, .iload_n 1, 1),
  (4, .invokevirtual 108, 3),
  (7, .ifCond .eq 7, 3),
  (10, .lconst 1, 1),
  (11, .goto 4, 3),
  (14, .lconst 0, 1),
  (15, .lastore, 1),
  (16, .goto 6, 3),
  (19, .astore_n 3, 1),
  (20, .iconst 1, 1),
  (21, .ireturn, 1),
  (22, .iconst 0, 1),
  (23, .ireturn, 1)]
def mi_Z_runEnds : mi_T := ("DataflowLabLaw", ({ cls := "DataflowLabLaw", name := "runEnds", desc := "(LDataflowLab;I[J)I" } : MethodName), method_32_code, 4, (Option.some FieldType.int), [(0, 16, 19, 18)], tb_Z_runEnds)
theorem mo_Z_runEnds : mi_ok mi_Z_runEnds := by
  show ∀ q ∈ tb_Z_runEnds, decode method_32_code q.1 = .ok q.2
  decide +kernel
theorem mw_Z_runEnds : mi_w mi_Z_runEnds 3 := ⟨tb_m 1584 (by decide +kernel) (by decide +kernel), tb_m 143 (by decide +kernel) rfl, ⟨by decide +kernel, by decide +kernel, by decide +kernel⟩, by decide +kernel⟩
theorem mv_Z_runEnds : Cond.static (mi_y mi_Z_runEnds) ∈ tb_G := tb_m 1583 (by decide +kernel) rfl
def tb_Z_valueAfter : List (Nat × Instr × Nat) := [(0, .aload_n 3, 1),
  (1, .iconst 0, 1),
  (2, .aload_n 0, 1),
  (3, .iload_n 1, 1),
  (4, .iload_n 2, 1),
  (5, .invokevirtual 111, 3),
  (8, .i2l, 1),
  (9, .lastore, 1),
  (10, .goto 7, 3),
  (13, .astore 4, 2),
  (15, .iconst 1, 1),
  (16, .ireturn, 1),
  (17, .iconst 0, 1),
  (18, .ireturn, 1)]
def mi_Z_valueAfter : mi_T := ("DataflowLabLaw", ({ cls := "DataflowLabLaw", name := "valueAfter", desc := "(LDataflowLab;II[J)I" } : MethodName), method_33_code, 5, (Option.some FieldType.int), [(0, 10, 13, 18)], tb_Z_valueAfter)
theorem mo_Z_valueAfter : mi_ok mi_Z_valueAfter := by
  show ∀ q ∈ tb_Z_valueAfter, decode method_33_code q.1 = .ok q.2
  decide +kernel
theorem mw_Z_valueAfter : mi_w mi_Z_valueAfter 4 := ⟨tb_m 1591 (by decide +kernel) (by decide +kernel), tb_m 143 (by decide +kernel) rfl, ⟨by decide +kernel, by decide +kernel, by decide +kernel⟩, by decide +kernel⟩
theorem mv_Z_valueAfter : Cond.static (mi_y mi_Z_valueAfter) ∈ tb_G := tb_m 1590 (by decide +kernel) rfl
def tb_Z_lastShown : List (Nat × Instr × Nat) := [(0, .aload_n 2, 1),
  (1, .iconst 0, 1),
  (2, .aload_n 0, 1),
  (3, .iload_n 1, 1),
  (4, .invokevirtual 114, 3),
  (7, .i2l, 1),
  (8, .lastore, 1),
  (9, .goto 6, 3),
  (12, .astore_n 3, 1),
  (13, .iconst 1, 1),
  (14, .ireturn, 1),
  (15, .iconst 0, 1),
  (16, .ireturn, 1)]
def mi_Z_lastShown : mi_T := ("DataflowLabLaw", ({ cls := "DataflowLabLaw", name := "lastShown", desc := "(LDataflowLab;I[J)I" } : MethodName), method_34_code, 4, (Option.some FieldType.int), [(0, 9, 12, 18)], tb_Z_lastShown)
theorem mo_Z_lastShown : mi_ok mi_Z_lastShown := by
  show ∀ q ∈ tb_Z_lastShown, decode method_34_code q.1 = .ok q.2
  decide +kernel
theorem mw_Z_lastShown : mi_w mi_Z_lastShown 3 := ⟨tb_m 1606 (by decide +kernel) (by decide +kernel), tb_m 143 (by decide +kernel) rfl, ⟨by decide +kernel, by decide +kernel, by decide +kernel⟩, by decide +kernel⟩
theorem mv_Z_lastShown : Cond.static (mi_y mi_Z_lastShown) ∈ tb_G := tb_m 1605 (by decide +kernel) rfl
def tb_Z_visits : List (Nat × Instr × Nat) := [(0, .aload_n 3, 1),
  (1, .iconst 0, 1),
  (2, .aload_n 0, 1),
  (3, .iload_n 1, 1),
  (4, .iload_n 2, 1),
  (5, .invokevirtual 117, 3),
  (8, .i2l, 1),
  (9, .lastore, 1),
  (10, .goto 11, 3),
  (13, .astore 4, 2),
  (15, .iconst 1, 1),
  (16, .ireturn, 1),
  (17, .astore 4, 2),
  (19, .iconst 2, 1),
  (20, .ireturn, 1),
  (21, .iconst 0, 1),
  (22, .ireturn, 1)]
def mi_Z_visits : mi_T := ("DataflowLabLaw", ({ cls := "DataflowLabLaw", name := "visits", desc := "(LDataflowLab;II[J)I" } : MethodName), method_35_code, 5, (Option.some FieldType.int), [(0, 10, 13, 23), (0, 10, 17, 18)], tb_Z_visits)
theorem mo_Z_visits : mi_ok mi_Z_visits := by
  show ∀ q ∈ tb_Z_visits, decode method_35_code q.1 = .ok q.2
  decide +kernel
theorem mw_Z_visits : mi_w mi_Z_visits 4 := ⟨tb_m 1613 (by decide +kernel) (by decide +kernel), tb_m 143 (by decide +kernel) rfl, ⟨by decide +kernel, by decide +kernel, by decide +kernel⟩, by decide +kernel⟩
theorem mv_Z_visits : Cond.static (mi_y mi_Z_visits) ∈ tb_G := tb_m 1612 (by decide +kernel) rfl
def tb_Z_insertSet : List (Nat × Instr × Nat) := [(0, .aload 5, 2),
  (2, .iconst 0, 1),
  (3, .aload_n 0, 1),
  (4, .iload_n 1, 1),
  (5, .iload_n 2, 1),
  (6, .iload_n 3, 1),
  (7, .iload 4, 2),
  (9, .invokevirtual 120, 3),
  (12, .i2l, 1),
  (13, .lastore, 1),
  (14, .goto 15, 3),
  (17, .astore 6, 2),
  (19, .iconst 1, 1),
  (20, .ireturn, 1),
  (21, .astore 6, 2),
  (23, .iconst 2, 1),
  (24, .ireturn, 1),
  (25, .astore 6, 2),
  (27, .iconst 3, 1),
  (28, .ireturn, 1),
  (29, .iconst 0, 1),
  (30, .ireturn, 1)]
def mi_Z_insertSet : mi_T := ("DataflowLabLaw", ({ cls := "DataflowLabLaw", name := "insertSet", desc := "(LDataflowLab;IIII[J)I" } : MethodName), method_36_code, 7, (Option.some FieldType.int), [(0, 14, 17, 23), (0, 14, 21, 18), (0, 14, 25, 13)], tb_Z_insertSet)
theorem mo_Z_insertSet : mi_ok mi_Z_insertSet := by
  show ∀ q ∈ tb_Z_insertSet, decode method_36_code q.1 = .ok q.2
  decide +kernel
theorem mw_Z_insertSet : mi_w mi_Z_insertSet 6 := ⟨tb_m 1624 (by decide +kernel) (by decide +kernel), tb_m 143 (by decide +kernel) rfl, ⟨by decide +kernel, by decide +kernel, by decide +kernel⟩, by decide +kernel⟩
theorem mv_Z_insertSet : Cond.static (mi_y mi_Z_insertSet) ∈ tb_G := tb_m 1623 (by decide +kernel) rfl
def tb_Z_insertCalc : List (Nat × Instr × Nat) := [(0, .aload 7, 2),
  (2, .iconst 0, 1),
  (3, .aload_n 0, 1),
  (4, .iload_n 1, 1),
  (5, .iload_n 2, 1),
  (6, .iload_n 3, 1),
  (7, .iload 4, 2),
  (9, .iload 5, 2),
  (11, .iload 6, 2),
  (13, .invokevirtual 124, 3),
  (16, .i2l, 1),
  (17, .lastore, 1),
  (18, .goto 15, 3),
  (21, .astore 8, 2),
  (23, .iconst 1, 1),
  (24, .ireturn, 1),
  (25, .astore 8, 2),
  (27, .iconst 2, 1),
  (28, .ireturn, 1),
  (29, .astore 8, 2),
  (31, .iconst 3, 1),
  (32, .ireturn, 1),
  (33, .iconst 0, 1),
  (34, .ireturn, 1)]
def mi_Z_insertCalc : mi_T := ("DataflowLabLaw", ({ cls := "DataflowLabLaw", name := "insertCalc", desc := "(LDataflowLab;IIIIII[J)I" } : MethodName), method_37_code, 9, (Option.some FieldType.int), [(0, 18, 21, 23), (0, 18, 25, 18), (0, 18, 29, 13)], tb_Z_insertCalc)
theorem mo_Z_insertCalc : mi_ok mi_Z_insertCalc := by
  show ∀ q ∈ tb_Z_insertCalc, decode method_37_code q.1 = .ok q.2
  decide +kernel
theorem mw_Z_insertCalc : mi_w mi_Z_insertCalc 8 := ⟨tb_m 1658 (by decide +kernel) (by decide +kernel), tb_m 143 (by decide +kernel) rfl, ⟨by decide +kernel, by decide +kernel, by decide +kernel⟩, by decide +kernel⟩
theorem mv_Z_insertCalc : Cond.static (mi_y mi_Z_insertCalc) ∈ tb_G := tb_m 1657 (by decide +kernel) rfl
def tb_Z_removeInstruction : List (Nat × Instr × Nat) := [(0, .aload_n 2, 1),
  (1, .iconst 0, 1),
  (2, .aload_n 0, 1),
  (3, .iload_n 1, 1),
  (4, .invokevirtual 128, 3),
  (7, .i2l, 1),
  (8, .lastore, 1),
  (9, .goto 6, 3),
  (12, .astore_n 3, 1),
  (13, .iconst 1, 1),
  (14, .ireturn, 1),
  (15, .iconst 0, 1),
  (16, .ireturn, 1)]
def mi_Z_removeInstruction : mi_T := ("DataflowLabLaw", ({ cls := "DataflowLabLaw", name := "removeInstruction", desc := "(LDataflowLab;I[J)I" } : MethodName), method_38_code, 4, (Option.some FieldType.int), [(0, 9, 12, 23)], tb_Z_removeInstruction)
theorem mo_Z_removeInstruction : mi_ok mi_Z_removeInstruction := by
  show ∀ q ∈ tb_Z_removeInstruction, decode method_38_code q.1 = .ok q.2
  decide +kernel
theorem mw_Z_removeInstruction : mi_w mi_Z_removeInstruction 3 := ⟨tb_m 1672 (by decide +kernel) (by decide +kernel), tb_m 143 (by decide +kernel) rfl, ⟨by decide +kernel, by decide +kernel, by decide +kernel⟩, by decide +kernel⟩
theorem mv_Z_removeInstruction : Cond.static (mi_y mi_Z_removeInstruction) ∈ tb_G := tb_m 1671 (by decide +kernel) rfl
def tb_Z_setGoto : List (Nat × Instr × Nat) := [(0, .aload_n 3, 1),
  (1, .iconst 0, 1),
  (2, .aload_n 0, 1),
  (3, .iload_n 1, 1),
  (4, .iload_n 2, 1),
  (5, .invokevirtual 131, 3),
  (8, .i2l, 1),
  (9, .lastore, 1),
  (10, .goto 7, 3),
  (13, .astore 4, 2),
  (15, .iconst 1, 1),
  (16, .ireturn, 1),
  (17, .iconst 0, 1),
  (18, .ireturn, 1)]
def mi_Z_setGoto : mi_T := ("DataflowLabLaw", ({ cls := "DataflowLabLaw", name := "setGoto", desc := "(LDataflowLab;II[J)I" } : MethodName), method_39_code, 5, (Option.some FieldType.int), [(0, 10, 13, 23)], tb_Z_setGoto)
theorem mo_Z_setGoto : mi_ok mi_Z_setGoto := by
  show ∀ q ∈ tb_Z_setGoto, decode method_39_code q.1 = .ok q.2
  decide +kernel
theorem mw_Z_setGoto : mi_w mi_Z_setGoto 4 := ⟨tb_m 1679 (by decide +kernel) (by decide +kernel), tb_m 143 (by decide +kernel) rfl, ⟨by decide +kernel, by decide +kernel, by decide +kernel⟩, by decide +kernel⟩
theorem mv_Z_setGoto : Cond.static (mi_y mi_Z_setGoto) ∈ tb_G := tb_m 1678 (by decide +kernel) rfl
def tb_Z_setBranch : List (Nat × Instr × Nat) := [(0, .aload 5, 2),
  (2, .iconst 0, 1),
  (3, .aload_n 0, 1),
  (4, .iload_n 1, 1),
  (5, .iload_n 2, 1),
  (6, .iload_n 3, 1),
  (7, .iload 4, 2),
  (9, .invokevirtual 134, 3),
  (12, .i2l, 1),
  (13, .lastore, 1),
  (14, .goto 11, 3),
  (17, .astore 6, 2),
  (19, .iconst 1, 1),
  (20, .ireturn, 1),
  (21, .astore 6, 2),
  (23, .iconst 2, 1),
  (24, .ireturn, 1),
  (25, .iconst 0, 1),
  (26, .ireturn, 1)]
def mi_Z_setBranch : mi_T := ("DataflowLabLaw", ({ cls := "DataflowLabLaw", name := "setBranch", desc := "(LDataflowLab;IIII[J)I" } : MethodName), method_40_code, 7, (Option.some FieldType.int), [(0, 14, 17, 23), (0, 14, 21, 18)], tb_Z_setBranch)
theorem mo_Z_setBranch : mi_ok mi_Z_setBranch := by
  show ∀ q ∈ tb_Z_setBranch, decode method_40_code q.1 = .ok q.2
  decide +kernel
theorem mw_Z_setBranch : mi_w mi_Z_setBranch 6 := ⟨tb_m 1691 (by decide +kernel) (by decide +kernel), tb_m 143 (by decide +kernel) rfl, ⟨by decide +kernel, by decide +kernel, by decide +kernel⟩, by decide +kernel⟩
theorem mv_Z_setBranch : Cond.static (mi_y mi_Z_setBranch) ∈ tb_G := tb_m 1690 (by decide +kernel) rfl
def tb_Z_writeBlock : List (Nat × Instr × Nat) := [(0, .aload_n 2, 1),
  (1, .iconst 0, 1),
  (2, .aload_n 0, 1),
  (3, .iload_n 1, 1),
  (4, .invokevirtual 137, 3),
  (7, .i2l, 1),
  (8, .lastore, 1),
  (9, .goto 6, 3),
  (12, .astore_n 3, 1),
  (13, .iconst 1, 1),
  (14, .ireturn, 1),
  (15, .iconst 0, 1),
  (16, .ireturn, 1)]
def mi_Z_writeBlock : mi_T := ("DataflowLabLaw", ({ cls := "DataflowLabLaw", name := "writeBlock", desc := "(LDataflowLab;I[J)I" } : MethodName), method_41_code, 4, (Option.some FieldType.int), [(0, 9, 12, 23)], tb_Z_writeBlock)
theorem mo_Z_writeBlock : mi_ok mi_Z_writeBlock := by
  show ∀ q ∈ tb_Z_writeBlock, decode method_41_code q.1 = .ok q.2
  decide +kernel
theorem mw_Z_writeBlock : mi_w mi_Z_writeBlock 3 := ⟨tb_m 1699 (by decide +kernel) (by decide +kernel), tb_m 143 (by decide +kernel) rfl, ⟨by decide +kernel, by decide +kernel, by decide +kernel⟩, by decide +kernel⟩
theorem mv_Z_writeBlock : Cond.static (mi_y mi_Z_writeBlock) ∈ tb_G := tb_m 1698 (by decide +kernel) rfl
def tb_Z_undo : List (Nat × Instr × Nat) := [(0, .aload_n 1, 1),
  (1, .iconst 0, 1),
  (2, .aload_n 0, 1),
  (3, .invokevirtual 140, 3),
  (6, .i2l, 1),
  (7, .lastore, 1),
  (8, .goto 6, 3),
  (11, .astore_n 2, 1),
  (12, .iconst 1, 1),
  (13, .ireturn, 1),
  (14, .iconst 0, 1),
  (15, .ireturn, 1)]
def mi_Z_undo : mi_T := ("DataflowLabLaw", ({ cls := "DataflowLabLaw", name := "undo", desc := "(LDataflowLab;[J)I" } : MethodName), method_42_code, 3, (Option.some FieldType.int), [(0, 8, 11, 13)], tb_Z_undo)
theorem mo_Z_undo : mi_ok mi_Z_undo := by
  show ∀ q ∈ tb_Z_undo, decode method_42_code q.1 = .ok q.2
  decide +kernel
theorem mw_Z_undo : mi_w mi_Z_undo 2 := ⟨tb_m 1765 (by decide +kernel) (by decide +kernel), tb_m 143 (by decide +kernel) rfl, ⟨by decide +kernel, by decide +kernel, by decide +kernel⟩, by decide +kernel⟩
theorem mv_Z_undo : Cond.static (mi_y mi_Z_undo) ∈ tb_G := tb_m 1764 (by decide +kernel) rfl
def tb_Z_saveSnapshot : List (Nat × Instr × Nat) := [(0, .aload_n 0, 1),
  (1, .iload_n 1, 1),
  (2, .invokevirtual 144, 3),
  (5, .goto 6, 3),
  (8, .astore_n 2, 1),
  (9, .iconst 1, 1),
  (10, .ireturn, 1),
  (11, .iconst 0, 1),
  (12, .ireturn, 1)]
def mi_Z_saveSnapshot : mi_T := ("DataflowLabLaw", ({ cls := "DataflowLabLaw", name := "saveSnapshot", desc := "(LDataflowLab;I)I" } : MethodName), method_43_code, 3, (Option.some FieldType.int), [(0, 5, 8, 18)], tb_Z_saveSnapshot)
theorem mo_Z_saveSnapshot : mi_ok mi_Z_saveSnapshot := by
  show ∀ q ∈ tb_Z_saveSnapshot, decode method_43_code q.1 = .ok q.2
  decide +kernel
theorem mw_Z_saveSnapshot : mi_w mi_Z_saveSnapshot 2 := ⟨tb_m 1777 (by decide +kernel) (by decide +kernel), tb_m 143 (by decide +kernel) rfl, ⟨by decide +kernel, by decide +kernel, by decide +kernel⟩, by decide +kernel⟩
theorem mv_Z_saveSnapshot : Cond.static (mi_y mi_Z_saveSnapshot) ∈ tb_G := tb_m 1776 (by decide +kernel) rfl
def tb_Z_restoreSnapshot : List (Nat × Instr × Nat) := [(0, .aload_n 0, 1),
  (1, .iload_n 1, 1),
  (2, .invokevirtual 148, 3),
  (5, .goto 9, 3),
  (8, .astore_n 2, 1),
  (9, .iconst 1, 1),
  (10, .ireturn, 1),
  (11, .astore_n 2, 1),
  (12, .iconst 2, 1),
  (13, .ireturn, 1),
  (14, .iconst 0, 1),
  (15, .ireturn, 1)]
def mi_Z_restoreSnapshot : mi_T := ("DataflowLabLaw", ({ cls := "DataflowLabLaw", name := "restoreSnapshot", desc := "(LDataflowLab;I)I" } : MethodName), method_44_code, 3, (Option.some FieldType.int), [(0, 5, 8, 18), (0, 5, 11, 13)], tb_Z_restoreSnapshot)
theorem mo_Z_restoreSnapshot : mi_ok mi_Z_restoreSnapshot := by
  show ∀ q ∈ tb_Z_restoreSnapshot, decode method_44_code q.1 = .ok q.2
  decide +kernel
theorem mw_Z_restoreSnapshot : mi_w mi_Z_restoreSnapshot 2 := ⟨tb_m 1785 (by decide +kernel) (by decide +kernel), tb_m 143 (by decide +kernel) rfl, ⟨by decide +kernel, by decide +kernel, by decide +kernel⟩, by decide +kernel⟩
theorem mv_Z_restoreSnapshot : Cond.static (mi_y mi_Z_restoreSnapshot) ∈ tb_G := tb_m 1784 (by decide +kernel) rfl
