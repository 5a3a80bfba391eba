def tb_P_init : List (Nat × Instr × Nat) := [(0, .aload_n 0, 1),
  (1, .invokespecial 3, 3),
  (4, .aload_n 0, 1),
  (5, .bipush 40, 2),
  (7, .newarray .int, 2),
  (9, .putfield 9, 3),
  (12, .aload_n 0, 1),
  (13, .bipush 13, 2),
  (15, .newarray .int, 2),
  (17, .putfield 15, 3),
  (20, .aload_n 0, 1),
  (21, .bipush 12, 2),
  (23, .newarray .int, 2),
  (25, .putfield 18, 3),
  (28, .aload_n 0, 1),
  (29, .bipush 12, 2),
  (31, .newarray .int, 2),
  (33, .putfield 21, 3),
  (36, .aload_n 0, 1),
  (37, .bipush 12, 2),
  (39, .newarray .int, 2),
  (41, .putfield 24, 3),
  (44, .aload_n 0, 1),
  (45, .bipush 12, 2),
  (47, .newarray .int, 2),
  (49, .putfield 27, 3),
  (52, .return_, 1)]
def mi_P_init : mi_T := ("DataflowLab$Program", ({ cls := "DataflowLab$Program", name := "<init>", desc := "()V" } : MethodName), prog_10_method_1_code, 1, (Option.none : Option FieldType), [], tb_P_init)
theorem mo_P_init : mi_ok mi_P_init := by
  show ∀ q ∈ tb_P_init, decode prog_10_method_1_code q.1 = .ok q.2
  decide +kernel
theorem mw_P_init : mi_w mi_P_init 0 := ⟨tb_m 183 (by decide +kernel) (by decide +kernel), tb_m 145 (by decide +kernel) rfl, ⟨by decide +kernel, by decide +kernel, by decide +kernel⟩, by decide +kernel⟩
theorem mv_P_init : Cond.instanceMethod (mi_y mi_P_init) ∈ tb_G := tb_m 182 (by decide +kernel) rfl
def tb_S_init : List (Nat × Instr × Nat) := [(0, .aload_n 0, 1),
  (1, .invokespecial 3, 3),
  (4, .aload_n 0, 1),
  (5, .sipush 700, 3),
  (8, .newarray .int, 2),
  (10, .putfield 9, 3),
  (13, .aload_n 0, 1),
  (14, .iconst (-1), 1),
  (15, .putfield 15, 3),
  (18, .aload_n 0, 1),
  (19, .bipush 12, 2),
  (21, .newarray .int, 2),
  (23, .putfield 19, 3),
  (26, .aload_n 0, 1),
  (27, .bipush 12, 2),
  (29, .newarray .int, 2),
  (31, .putfield 22, 3),
  (34, .return_, 1)]
def mi_S_init : mi_T := ("DataflowLab$Parser", ({ cls := "DataflowLab$Parser", name := "<init>", desc := "()V" } : MethodName), prog_9_method_1_code, 1, (Option.none : Option FieldType), [], tb_S_init)
theorem mo_S_init : mi_ok mi_S_init := by
  show ∀ q ∈ tb_S_init, decode prog_9_method_1_code q.1 = .ok q.2
  decide +kernel
theorem mw_S_init : mi_w mi_S_init 0 := ⟨tb_m 223 (by decide +kernel) (by decide +kernel), tb_m 146 (by decide +kernel) rfl, ⟨by decide +kernel, by decide +kernel, by decide +kernel⟩, by decide +kernel⟩
theorem mv_S_init : Cond.instanceMethod (mi_y mi_S_init) ∈ tb_G := tb_m 222 (by decide +kernel) rfl
def tb_W_init : List (Nat × Instr × Nat) := [(0, .aload_n 0, 1),
  (1, .invokespecial 3, 3),
  (4, .aload_n 0, 1),
  (5, .sipush 704, 3),
  (8, .newarray .int, 2),
  (10, .putfield 9, 3),
  (13, .return_, 1)]
def mi_W_init : mi_T := ("DataflowLab$Writer", ({ cls := "DataflowLab$Writer", name := "<init>", desc := "()V" } : MethodName), prog_12_method_1_code, 1, (Option.none : Option FieldType), [], tb_W_init)
theorem mo_W_init : mi_ok mi_W_init := by
  show ∀ q ∈ tb_W_init, decode prog_12_method_1_code q.1 = .ok q.2
  decide +kernel
theorem mw_W_init : mi_w mi_W_init 0 := ⟨tb_m 262 (by decide +kernel) (by decide +kernel), tb_m 147 (by decide +kernel) rfl, ⟨by decide +kernel, by decide +kernel, by decide +kernel⟩, by decide +kernel⟩
theorem mv_W_init : Cond.instanceMethod (mi_y mi_W_init) ∈ tb_G := tb_m 261 (by decide +kernel) rfl
def tb_H_init : List (Nat × Instr × Nat) := [(0, .aload_n 0, 1),
  (1, .invokespecial 3, 3),
  (4, .aload_n 0, 1),
  (5, .bipush 6, 2),
  (7, .anewarray 9, 3),
  (10, .putfield 11, 3),
  (13, .return_, 1)]
def mi_H_init : mi_T := ("DataflowLab$History", ({ cls := "DataflowLab$History", name := "<init>", desc := "()V" } : MethodName), prog_6_method_1_code, 1, (Option.none : Option FieldType), [], tb_H_init)
theorem mo_H_init : mi_ok mi_H_init := by
  show ∀ q ∈ tb_H_init, decode prog_6_method_1_code q.1 = .ok q.2
  decide +kernel
theorem mw_H_init : mi_w mi_H_init 0 := ⟨tb_m 276 (by decide +kernel) (by decide +kernel), tb_m 148 (by decide +kernel) rfl, ⟨by decide +kernel, by decide +kernel, by decide +kernel⟩, by decide +kernel⟩
theorem mv_H_init : Cond.instanceMethod (mi_y mi_H_init) ∈ tb_G := tb_m 275 (by decide +kernel) rfl
def tb_G_init : List (Nat × Instr × Nat) := [(0, .aload_n 0, 1),
  (1, .invokespecial 3, 3),
  (4, .aload_n 0, 1),
  (5, .bipush 12, 2),
  (7, .newarray .int, 2),
  (9, .putfield 9, 3),
  (12, .aload_n 0, 1),
  (13, .bipush 12, 2),
  (15, .newarray .int, 2),
  (17, .putfield 15, 3),
  (20, .aload_n 0, 1),
  (21, .bipush 12, 2),
  (23, .newarray .int, 2),
  (25, .putfield 18, 3),
  (28, .aload_n 0, 1),
  (29, .bipush 12, 2),
  (31, .newarray .int, 2),
  (33, .putfield 21, 3),
  (36, .aload_n 0, 1),
  (37, .bipush 12, 2),
  (39, .newarray .int, 2),
  (41, .putfield 24, 3),
  (44, .return_, 1)]
def mi_G_init : mi_T := ("DataflowLab$Graph", ({ cls := "DataflowLab$Graph", name := "<init>", desc := "()V" } : MethodName), prog_5_method_1_code, 1, (Option.none : Option FieldType), [], tb_G_init)
theorem mo_G_init : mi_ok mi_G_init := by
  show ∀ q ∈ tb_G_init, decode prog_5_method_1_code q.1 = .ok q.2
  decide +kernel
theorem mw_G_init : mi_w mi_G_init 0 := ⟨tb_m 295 (by decide +kernel) (by decide +kernel), tb_m 149 (by decide +kernel) rfl, ⟨by decide +kernel, by decide +kernel, by decide +kernel⟩, by decide +kernel⟩
theorem mv_G_init : Cond.instanceMethod (mi_y mi_G_init) ∈ tb_G := tb_m 294 (by decide +kernel) rfl
def tb_R_init : List (Nat × Instr × Nat) := [(0, .aload_n 0, 1),
  (1, .invokespecial 3, 3),
  (4, .aload_n 0, 1),
  (5, .bipush 52, 2),
  (7, .newarray .long, 2),
  (9, .putfield 9, 3),
  (12, .aload_n 0, 1),
  (13, .bipush 52, 2),
  (15, .newarray .int, 2),
  (17, .putfield 15, 3),
  (20, .aload_n 0, 1),
  (21, .bipush 8, 2),
  (23, .newarray .long, 2),
  (25, .putfield 19, 3),
  (28, .return_, 1)]
def mi_R_init : mi_T := ("DataflowLab$Reaching", ({ cls := "DataflowLab$Reaching", name := "<init>", desc := "()V" } : MethodName), prog_11_method_1_code, 1, (Option.none : Option FieldType), [], tb_R_init)
theorem mo_R_init : mi_ok mi_R_init := by
  show ∀ q ∈ tb_R_init, decode prog_11_method_1_code q.1 = .ok q.2
  decide +kernel
theorem mw_R_init : mi_w mi_R_init 0 := ⟨tb_m 324 (by decide +kernel) (by decide +kernel), tb_m 150 (by decide +kernel) rfl, ⟨by decide +kernel, by decide +kernel, by decide +kernel⟩, by decide +kernel⟩
theorem mv_R_init : Cond.instanceMethod (mi_y mi_R_init) ∈ tb_G := tb_m 323 (by decide +kernel) rfl
def tb_L_init : List (Nat × Instr × Nat) := [(0, .aload_n 0, 1),
  (1, .invokespecial 3, 3),
  (4, .aload_n 0, 1),
  (5, .bipush 52, 2),
  (7, .newarray .int, 2),
  (9, .putfield 9, 3),
  (12, .aload_n 0, 1),
  (13, .bipush 52, 2),
  (15, .newarray .int, 2),
  (17, .putfield 15, 3),
  (20, .return_, 1)]
def mi_L_init : mi_T := ("DataflowLab$Liveness", ({ cls := "DataflowLab$Liveness", name := "<init>", desc := "()V" } : MethodName), prog_7_method_1_code, 1, (Option.none : Option FieldType), [], tb_L_init)
theorem mo_L_init : mi_ok mi_L_init := by
  show ∀ q ∈ tb_L_init, decode prog_7_method_1_code q.1 = .ok q.2
  decide +kernel
theorem mw_L_init : mi_w mi_L_init 0 := ⟨tb_m 345 (by decide +kernel) (by decide +kernel), tb_m 151 (by decide +kernel) rfl, ⟨by decide +kernel, by decide +kernel, by decide +kernel⟩, by decide +kernel⟩
theorem mv_L_init : Cond.instanceMethod (mi_y mi_L_init) ∈ tb_G := tb_m 344 (by decide +kernel) rfl
def tb_A_init : List (Nat × Instr × Nat) := [(0, .aload_n 0, 1),
  (1, .invokespecial 3, 3),
  (4, .aload_n 0, 1),
  (5, .bipush 40, 2),
  (7, .newarray .int, 2),
  (9, .putfield 9, 3),
  (12, .aload_n 0, 1),
  (13, .bipush 8, 2),
  (15, .newarray .long, 2),
  (17, .putfield 15, 3),
  (20, .aload_n 0, 1),
  (21, .bipush 52, 2),
  (23, .newarray .long, 2),
  (25, .putfield 19, 3),
  (28, .return_, 1)]
def mi_A_init : mi_T := ("DataflowLab$Available", ({ cls := "DataflowLab$Available", name := "<init>", desc := "()V" } : MethodName), prog_2_method_1_code, 1, (Option.none : Option FieldType), [], tb_A_init)
theorem mo_A_init : mi_ok mi_A_init := by
  show ∀ q ∈ tb_A_init, decode prog_2_method_1_code q.1 = .ok q.2
  decide +kernel
theorem mw_A_init : mi_w mi_A_init 0 := ⟨tb_m 362 (by decide +kernel) (by decide +kernel), tb_m 152 (by decide +kernel) rfl, ⟨by decide +kernel, by decide +kernel, by decide +kernel⟩, by decide +kernel⟩
theorem mv_A_init : Cond.instanceMethod (mi_y mi_A_init) ∈ tb_G := tb_m 361 (by decide +kernel) rfl
def tb_C_init : List (Nat × Instr × Nat) := [(0, .aload_n 0, 1),
  (1, .invokespecial 3, 3),
  (4, .aload_n 0, 1),
  (5, .sipush 416, 3),
  (8, .newarray .int, 2),
  (10, .putfield 9, 3),
  (13, .aload_n 0, 1),
  (14, .bipush 40, 2),
  (16, .newarray .int, 2),
  (18, .putfield 15, 3),
  (21, .return_, 1)]
def mi_C_init : mi_T := ("DataflowLab$Constants", ({ cls := "DataflowLab$Constants", name := "<init>", desc := "()V" } : MethodName), prog_4_method_1_code, 1, (Option.none : Option FieldType), [], tb_C_init)
theorem mo_C_init : mi_ok mi_C_init := by
  show ∀ q ∈ tb_C_init, decode prog_4_method_1_code q.1 = .ok q.2
  decide +kernel
theorem mw_C_init : mi_w mi_C_init 0 := ⟨tb_m 382 (by decide +kernel) (by decide +kernel), tb_m 153 (by decide +kernel) rfl, ⟨by decide +kernel, by decide +kernel, by decide +kernel⟩, by decide +kernel⟩
theorem mv_C_init : Cond.instanceMethod (mi_y mi_C_init) ∈ tb_G := tb_m 381 (by decide +kernel) rfl
def tb_N_init : List (Nat × Instr × Nat) := [(0, .aload_n 0, 1),
  (1, .invokespecial 3, 3),
  (4, .aload_n 0, 1),
  (5, .bipush 8, 2),
  (7, .newarray .int, 2),
  (9, .putfield 9, 3),
  (12, .aload_n 0, 1),
  (13, .bipush 12, 2),
  (15, .newarray .int, 2),
  (17, .putfield 15, 3),
  (20, .return_, 1)]
def mi_N_init : mi_T := ("DataflowLab$Machine", ({ cls := "DataflowLab$Machine", name := "<init>", desc := "()V" } : MethodName), prog_8_method_1_code, 1, (Option.none : Option FieldType), [], tb_N_init)
theorem mo_N_init : mi_ok mi_N_init := by
  show ∀ q ∈ tb_N_init, decode prog_8_method_1_code q.1 = .ok q.2
  decide +kernel
theorem mw_N_init : mi_w mi_N_init 0 := ⟨tb_m 399 (by decide +kernel) (by decide +kernel), tb_m 154 (by decide +kernel) rfl, ⟨by decide +kernel, by decide +kernel, by decide +kernel⟩, by decide +kernel⟩
theorem mv_N_init : Cond.instanceMethod (mi_y mi_N_init) ∈ tb_G := tb_m 398 (by decide +kernel) rfl
def tb_S_clearBuffer : List (Nat × Instr × Nat) := [(0, .aload_n 0, 1),
  (1, .iconst 0, 1),
  (2, .putfield 25, 3),
  (5, .return_, 1)]
def mi_S_clearBuffer : mi_T := ("DataflowLab$Parser", ({ cls := "DataflowLab$Parser", name := "clearBuffer", desc := "()V" } : MethodName), prog_9_method_3_code, 1, (Option.none : Option FieldType), [], tb_S_clearBuffer)
theorem mo_S_clearBuffer : mi_ok mi_S_clearBuffer := by
  show ∀ q ∈ tb_S_clearBuffer, decode prog_9_method_3_code q.1 = .ok q.2
  decide +kernel
theorem mw_S_clearBuffer : mi_w mi_S_clearBuffer 0 := ⟨tb_m 437 (by decide +kernel) (by decide +kernel), tb_m 146 (by decide +kernel) rfl, ⟨by decide +kernel, by decide +kernel, by decide +kernel⟩, by decide +kernel⟩
theorem mv_S_clearBuffer : mi_wV mi_S_clearBuffer := ⟨tb_m 435 (by decide +kernel) rfl, tb_m 436 (by decide +kernel) rfl⟩
def tb_D_put_a : List (Nat × Instr × Nat) := [(0, .iload_n 1, 1),
  (1, .ifCond .lt 13, 3),
  (4, .iload_n 1, 1),
  (5, .aload_n 0, 1),
  (6, .arraylength, 1),
  (7, .if_icmp .ge 7, 3),
  (10, .aload_n 0, 1),
  (11, .iload_n 1, 1),
  (12, .iload_n 2, 1),
  (13, .iastore, 1),
  (14, .return_, 1)]
def mi_D_put_a : mi_T := ("DataflowLab", ({ cls := "DataflowLab", name := "put", desc := "([III)V" } : MethodName), prog_1_method_82_code, 3, (Option.none : Option FieldType), [], tb_D_put_a)
theorem mo_D_put_a : mi_ok mi_D_put_a := by
  show ∀ q ∈ tb_D_put_a, decode prog_1_method_82_code q.1 = .ok q.2
  decide +kernel
theorem mw_D_put_a : mi_w mi_D_put_a 3 := ⟨tb_m 492 (by decide +kernel) (by decide +kernel), tb_m 144 (by decide +kernel) rfl, ⟨by decide +kernel, by decide +kernel, by decide +kernel⟩, by decide +kernel⟩
theorem mv_D_put_a : Cond.static (mi_y mi_D_put_a) ∈ tb_G := tb_m 491 (by decide +kernel) rfl
def tb_S_addByte : List (Nat × Instr × Nat) := [(0, .aload_n 0, 1),
  (1, .getfield 9, 3),
  (4, .aload_n 0, 1),
  (5, .getfield 25, 3),
  (8, .iload_n 1, 1),
  (9, .invokestatic 28, 3),
  (12, .aload_n 0, 1),
  (13, .dup, 1),
  (14, .getfield 25, 3),
  (17, .iconst 1, 1),
  (18, .iadd, 1),
  (19, .putfield 25, 3),
  (22, .return_, 1)]
def mi_S_addByte : mi_T := ("DataflowLab$Parser", ({ cls := "DataflowLab$Parser", name := "addByte", desc := "(I)V" } : MethodName), prog_9_method_5_code, 2, (Option.none : Option FieldType), [], tb_S_addByte)
theorem mo_S_addByte : mi_ok mi_S_addByte := by
  show ∀ q ∈ tb_S_addByte, decode prog_9_method_5_code q.1 = .ok q.2
  decide +kernel
theorem mw_S_addByte : mi_w mi_S_addByte 1 := ⟨tb_m 489 (by decide +kernel) (by decide +kernel), tb_m 146 (by decide +kernel) rfl, ⟨by decide +kernel, by decide +kernel, by decide +kernel⟩, by decide +kernel⟩
theorem mv_S_addByte : mi_wV mi_S_addByte := ⟨tb_m 487 (by decide +kernel) rfl, tb_m 488 (by decide +kernel) rfl⟩
def tb_S_fillBuffer : List (Nat × Instr × Nat) := [(0, .aload_n 0, 1),
  (1, .invokevirtual 32, 3),
  (4, .iconst 0, 1),
  (5, .istore_n 2, 1),
  (6, .iload_n 2, 1),
  (7, .aload_n 1, 1),
  (8, .invokevirtual 35, 3),
  (11, .if_icmp .ge 25, 3),
  (14, .iload_n 2, 1),
  (15, .sipush 700, 3),
  (18, .if_icmp .ge 18, 3),
  (21, .aload_n 0, 1),
  (22, .aload_n 1, 1),
  (23, .iload_n 2, 1),
  (24, .invokevirtual 40, 3),
  (27, .invokevirtual 44, 3),
  (30, .iinc 2 1, 3),
  (33, .goto (-27), 3),
  (36, .return_, 1)]
def mi_S_fillBuffer : mi_T := ("DataflowLab$Parser", ({ cls := "DataflowLab$Parser", name := "fillBuffer", desc := "(Ljava/lang/String;)V" } : MethodName), prog_9_method_6_code, 3, (Option.none : Option FieldType), [], tb_S_fillBuffer)
theorem mo_S_fillBuffer : mi_ok mi_S_fillBuffer := by
  show ∀ q ∈ tb_S_fillBuffer, decode prog_9_method_6_code q.1 = .ok q.2
  decide +kernel
theorem mw_S_fillBuffer : mi_w mi_S_fillBuffer 1 := ⟨tb_m 433 (by decide +kernel) (by decide +kernel), tb_m 146 (by decide +kernel) rfl, ⟨by decide +kernel, by decide +kernel, by decide +kernel⟩, by decide +kernel⟩
theorem mv_S_fillBuffer : mi_wV mi_S_fillBuffer := ⟨tb_m 431 (by decide +kernel) rfl, tb_m 432 (by decide +kernel) rfl⟩
def tb_P_clear : List (Nat × Instr × Nat) := [(0, .aload_n 0, 1),
  (1, .iconst 0, 1),
  (2, .putfield 30, 3),
  (5, .aload_n 0, 1),
  (6, .iconst 0, 1),
  (7, .putfield 34, 3),
  (10, .return_, 1)]
def mi_P_clear : mi_T := ("DataflowLab$Program", ({ cls := "DataflowLab$Program", name := "clear", desc := "()V" } : MethodName), prog_10_method_2_code, 1, (Option.none : Option FieldType), [], tb_P_clear)
theorem mo_P_clear : mi_ok mi_P_clear := by
  show ∀ q ∈ tb_P_clear, decode prog_10_method_2_code q.1 = .ok q.2
  decide +kernel
theorem mw_P_clear : mi_w mi_P_clear 0 := ⟨tb_m 500 (by decide +kernel) (by decide +kernel), tb_m 145 (by decide +kernel) rfl, ⟨by decide +kernel, by decide +kernel, by decide +kernel⟩, by decide +kernel⟩
theorem mv_P_clear : mi_wV mi_P_clear := ⟨tb_m 498 (by decide +kernel) rfl, tb_m 499 (by decide +kernel) rfl⟩
def tb_D_at_a : List (Nat × Instr × Nat) := [(0, .iload_n 1, 1),
  (1, .ifCond .lt 15, 3),
  (4, .iload_n 1, 1),
  (5, .aload_n 0, 1),
  (6, .arraylength, 1),
  (7, .if_icmp .ge 9, 3),
  (10, .aload_n 0, 1),
  (11, .iload_n 1, 1),
  (12, .iaload, 1),
  (13, .goto 4, 3),
  (16, .iconst 0, 1),
  (17, .ireturn, 1)]
def mi_D_at_a : mi_T := ("DataflowLab", ({ cls := "DataflowLab", name := "at", desc := "([II)I" } : MethodName), prog_1_method_80_code, 2, (Option.some FieldType.int), [], tb_D_at_a)
theorem mo_D_at_a : mi_ok mi_D_at_a := by
  show ∀ q ∈ tb_D_at_a, decode prog_1_method_80_code q.1 = .ok q.2
  decide +kernel
theorem mw_D_at_a : mi_w mi_D_at_a 2 := ⟨tb_m 507 (by decide +kernel) (by decide +kernel), tb_m 144 (by decide +kernel) rfl, ⟨by decide +kernel, by decide +kernel, by decide +kernel⟩, by decide +kernel⟩
theorem mv_D_at_a : Cond.static (mi_y mi_D_at_a) ∈ tb_G := tb_m 506 (by decide +kernel) rfl
def tb_S_isBlank : List (Nat × Instr × Nat) := [(0, .iload_n 0, 1),
  (1, .bipush 32, 2),
  (3, .if_icmp .eq 9, 3),
  (6, .iload_n 0, 1),
  (7, .bipush 10, 2),
  (9, .if_icmp .ne 7, 3),
  (12, .iconst 1, 1),
  (13, .goto 4, 3),
  (16, .iconst 0, 1),
  (17, .ireturn, 1)]
def mi_S_isBlank : mi_T := ("DataflowLab$Parser", ({ cls := "DataflowLab$Parser", name := "isBlank", desc := "(I)Z" } : MethodName), prog_9_method_21_code, 1, (Option.some FieldType.boolean), [], tb_S_isBlank)
theorem mo_S_isBlank : mi_ok mi_S_isBlank := by
  show ∀ q ∈ tb_S_isBlank, decode prog_9_method_21_code q.1 = .ok q.2
  decide +kernel
theorem mw_S_isBlank : mi_w mi_S_isBlank 1 := ⟨tb_m 510 (by decide +kernel) (by decide +kernel), tb_m 146 (by decide +kernel) rfl, ⟨by decide +kernel, by decide +kernel, by decide +kernel⟩, by decide +kernel⟩
theorem mv_S_isBlank : Cond.static (mi_y mi_S_isBlank) ∈ tb_G := tb_m 509 (by decide +kernel) rfl
def tb_S_tokenKind : List (Nat × Instr × Nat) := [(0, .iload_n 0, 1),
  (1, .bipush 97, 2),
  (3, .if_icmp .lt 11, 3),
  (6, .iload_n 0, 1),
  (7, .bipush 122, 2),
  (9, .if_icmp .gt 5, 3),
  (12, .iconst 1, 1),
  (13, .ireturn, 1),
  (14, .iload_n 0, 1),
  (15, .bipush 48, 2),
  (17, .if_icmp .lt 11, 3),
  (20, .iload_n 0, 1),
  (21, .bipush 57, 2),
  (23, .if_icmp .gt 5, 3),
  (26, .iconst 2, 1),
  (27, .ireturn, 1),
  (28, .iload_n 0, 1),
  (29, .bipush 59, 2),
  (31, .if_icmp .ne 7, 3),
  (34, .iconst 3, 1),
  (35, .goto 4, 3),
  (38, .iconst 4, 1),
  (39, .ireturn, 1)]
def mi_S_tokenKind : mi_T := ("DataflowLab$Parser", ({ cls := "DataflowLab$Parser", name := "tokenKind", desc := "(I)I" } : MethodName), prog_9_method_22_code, 1, (Option.some FieldType.int), [], tb_S_tokenKind)
theorem mo_S_tokenKind : mi_ok mi_S_tokenKind := by
  show ∀ q ∈ tb_S_tokenKind, decode prog_9_method_22_code q.1 = .ok q.2
  decide +kernel
theorem mw_S_tokenKind : mi_w mi_S_tokenKind 1 := ⟨tb_m 513 (by decide +kernel) (by decide +kernel), tb_m 146 (by decide +kernel) rfl, ⟨by decide +kernel, by decide +kernel, by decide +kernel⟩, by decide +kernel⟩
theorem mv_S_tokenKind : Cond.static (mi_y mi_S_tokenKind) ∈ tb_G := tb_m 512 (by decide +kernel) rfl
def tb_S_canGrow : List (Nat × Instr × Nat) := [(0, .iload_n 0, 1),
  (1, .iconst 1, 1),
  (2, .if_icmp .eq 8, 3),
  (5, .iload_n 0, 1),
  (6, .iconst 2, 1),
  (7, .if_icmp .ne 7, 3),
  (10, .iconst 1, 1),
  (11, .goto 4, 3),
  (14, .iconst 0, 1),
  (15, .ireturn, 1)]
def mi_S_canGrow : mi_T := ("DataflowLab$Parser", ({ cls := "DataflowLab$Parser", name := "canGrow", desc := "(I)Z" } : MethodName), prog_9_method_20_code, 1, (Option.some FieldType.boolean), [], tb_S_canGrow)
theorem mo_S_canGrow : mi_ok mi_S_canGrow := by
  show ∀ q ∈ tb_S_canGrow, decode prog_9_method_20_code q.1 = .ok q.2
  decide +kernel
theorem mw_S_canGrow : mi_w mi_S_canGrow 1 := ⟨tb_m 516 (by decide +kernel) (by decide +kernel), tb_m 146 (by decide +kernel) rfl, ⟨by decide +kernel, by decide +kernel, by decide +kernel⟩, by decide +kernel⟩
theorem mv_S_canGrow : Cond.static (mi_y mi_S_canGrow) ∈ tb_G := tb_m 515 (by decide +kernel) rfl
def tb_JM_min : List (Nat × Instr × Nat) := [(0, .iload_n 0, 1),
  (1, .iload_n 1, 1),
  (2, .if_icmp .gt 7, 3),
  (5, .iload_n 0, 1),
  (6, .goto 4, 3),
  (9, .iload_n 1, 1),
  (10, .ireturn, 1)]
def mi_JM_min : mi_T := ("java/lang/Math", ({ cls := "java/lang/Math", name := "min", desc := "(II)I" } : MethodName), prog_24_method_69_code, 2, (Option.some FieldType.int), [], tb_JM_min)
theorem mo_JM_min : mi_ok mi_JM_min := by
  show ∀ q ∈ tb_JM_min, decode prog_24_method_69_code q.1 = .ok q.2
  decide +kernel
theorem mw_JM_min : mi_w mi_JM_min 2 := ⟨tb_m 519 (by decide +kernel) (by decide +kernel), tb_m 159 (by decide +kernel) rfl, ⟨by decide +kernel, by decide +kernel, by decide +kernel⟩, by decide +kernel⟩
theorem mv_JM_min : Cond.static (mi_y mi_JM_min) ∈ tb_G := tb_m 518 (by decide +kernel) rfl
def tb_S_readToken : List (Nat × Instr × Nat) := [(0, .aload_n 0, 1),
  (1, .aload_n 0, 1),
  (2, .getfield 56, 3),
  (5, .putfield 94, 3),
  (8, .aload_n 0, 1),
  (9, .getfield 94, 3),
  (12, .aload_n 0, 1),
  (13, .getfield 25, 3),
  (16, .if_icmp .ge 33, 3),
  (19, .aload_n 0, 1),
  (20, .getfield 9, 3),
  (23, .aload_n 0, 1),
  (24, .getfield 94, 3),
  (27, .invokestatic 150, 3),
  (30, .invokestatic 171, 3),
  (33, .ifCond .eq 16, 3),
  (36, .aload_n 0, 1),
  (37, .dup, 1),
  (38, .getfield 94, 3),
  (41, .iconst 1, 1),
  (42, .iadd, 1),
  (43, .putfield 94, 3),
  (46, .goto (-38), 3),
  (49, .aload_n 0, 1),
  (50, .aload_n 0, 1),
  (51, .getfield 94, 3),
  (54, .aload_n 0, 1),
  (55, .getfield 25, 3),
  (58, .if_icmp .ge 20, 3),
  (61, .aload_n 0, 1),
  (62, .getfield 9, 3),
  (65, .aload_n 0, 1),
  (66, .getfield 94, 3),
  (69, .invokestatic 150, 3),
  (72, .invokestatic 175, 3),
  (75, .goto 4, 3),
  (78, .iconst 0, 1),
  (79, .putfield 62, 3),
  (82, .aload_n 0, 1),
  (83, .iconst 0, 1),
  (84, .putfield 168, 3),
  (87, .aload_n 0, 1),
  (88, .aload_n 0, 1),
  (89, .getfield 94, 3),
  (92, .putfield 56, 3),
  (95, .aload_n 0, 1),
  (96, .getfield 56, 3),
  (99, .aload_n 0, 1),
  (100, .getfield 25, 3),
  (103, .if_icmp .ge 98, 3),
  (106, .aload_n 0, 1),
  (107, .getfield 9, 3),
  (110, .aload_n 0, 1),
  (111, .getfield 56, 3),
  (114, .invokestatic 150, 3),
  (117, .invokestatic 175, 3),
  (120, .aload_n 0, 1),
  (121, .getfield 62, 3),
  (124, .if_icmp .ne 77, 3),
  (127, .aload_n 0, 1),
  (128, .getfield 56, 3),
  (131, .aload_n 0, 1),
  (132, .getfield 94, 3),
  (135, .if_icmp .eq 13, 3),
  (138, .aload_n 0, 1),
  (139, .getfield 62, 3),
  (142, .invokestatic 178, 3),
  (145, .ifCond .eq 56, 3),
  (148, .aload_n 0, 1),
  (149, .getfield 62, 3),
  (152, .iconst 2, 1),
  (153, .if_icmp .ne 35, 3),
  (156, .aload_n 0, 1),
  (157, .aload_n 0, 1),
  (158, .getfield 168, 3),
  (161, .bipush 10, 2),
  (163, .imul, 1),
  (164, .aload_n 0, 1),
  (165, .getfield 9, 3),
  (168, .aload_n 0, 1),
  (169, .getfield 56, 3),
  (172, .invokestatic 150, 3),
  (175, .iadd, 1),
  (176, .bipush 48, 2),
  (178, .isub, 1),
  (179, .sipush 1000, 3),
  (182, .invokestatic 181, 3),
  (185, .putfield 168, 3),
  (188, .aload_n 0, 1),
  (189, .dup, 1),
  (190, .getfield 56, 3),
  (193, .iconst 1, 1),
  (194, .iadd, 1),
  (195, .putfield 56, 3),
  (198, .goto (-103), 3),
  (201, .return_, 1)]
def mi_S_readToken : mi_T := ("DataflowLab$Parser", ({ cls := "DataflowLab$Parser", name := "readToken", desc := "()V" } : MethodName), prog_9_method_19_code, 1, (Option.none : Option FieldType), [], tb_S_readToken)
theorem mo_S_readToken : mi_ok mi_S_readToken := by
  show ∀ q ∈ tb_S_readToken, decode prog_9_method_19_code q.1 = .ok q.2
  decide +kernel
theorem mw_S_readToken : mi_w mi_S_readToken 0 := ⟨tb_m 504 (by decide +kernel) (by decide +kernel), tb_m 146 (by decide +kernel) rfl, ⟨by decide +kernel, by decide +kernel, by decide +kernel⟩, by decide +kernel⟩
theorem mv_S_readToken : mi_wV mi_S_readToken := ⟨tb_m 503 (by decide +kernel) rfl, tb_m 0 (by decide +kernel) rfl⟩
def tb_S_isWord : List (Nat × Instr × Nat) := [(0, .aload_n 0, 1),
  (1, .getfield 62, 3),
  (4, .iconst 1, 1),
  (5, .if_icmp .ne 19, 3),
  (8, .aload_n 0, 1),
  (9, .getfield 56, 3),
  (12, .aload_n 0, 1),
  (13, .getfield 94, 3),
  (16, .isub, 1),
  (17, .aload_n 1, 1),
  (18, .invokevirtual 35, 3),
  (21, .if_icmp .eq 5, 3),
  (24, .iconst 0, 1),
  (25, .ireturn, 1),
  (26, .iconst 0, 1),
  (27, .istore_n 2, 1),
  (28, .iload_n 2, 1),
  (29, .aload_n 1, 1),
  (30, .invokevirtual 35, 3),
  (33, .if_icmp .ge 32, 3),
  (36, .aload_n 0, 1),
  (37, .getfield 9, 3),
  (40, .aload_n 0, 1),
  (41, .getfield 94, 3),
  (44, .iload_n 2, 1),
  (45, .iadd, 1),
  (46, .invokestatic 150, 3),
  (49, .aload_n 1, 1),
  (50, .iload_n 2, 1),
  (51, .invokevirtual 40, 3),
  (54, .if_icmp .eq 5, 3),
  (57, .iconst 0, 1),
  (58, .ireturn, 1),
  (59, .iinc 2 1, 3),
  (62, .goto (-34), 3),
  (65, .iconst 1, 1),
  (66, .ireturn, 1)]
def mi_S_isWord : mi_T := ("DataflowLab$Parser", ({ cls := "DataflowLab$Parser", name := "isWord", desc := "(Ljava/lang/String;)Z" } : MethodName), prog_9_method_18_code, 3, (Option.some FieldType.boolean), [], tb_S_isWord)
theorem mo_S_isWord : mi_ok mi_S_isWord := by
  show ∀ q ∈ tb_S_isWord, decode prog_9_method_18_code q.1 = .ok q.2
  decide +kernel
theorem mw_S_isWord : mi_w mi_S_isWord 1 := ⟨tb_m 528 (by decide +kernel) (by decide +kernel), tb_m 146 (by decide +kernel) rfl, ⟨by decide +kernel, by decide +kernel, by decide +kernel⟩, by decide +kernel⟩
theorem mv_S_isWord : mi_wV mi_S_isWord := ⟨tb_m 527 (by decide +kernel) rfl, tb_m 2 (by decide +kernel) rfl⟩
def tb_S_fail : List (Nat × Instr × Nat) := [(0, .aload_n 0, 1),
  (1, .getfield 48, 3),
  (4, .ifCond .ne 13, 3),
  (7, .aload_n 0, 1),
  (8, .iload_n 1, 1),
  (9, .putfield 48, 3),
  (12, .aload_n 0, 1),
  (13, .iload_n 2, 1),
  (14, .putfield 15, 3),
  (17, .return_, 1)]
def mi_S_fail : mi_T := ("DataflowLab$Parser", ({ cls := "DataflowLab$Parser", name := "fail", desc := "(II)V" } : MethodName), prog_9_method_12_code, 3, (Option.none : Option FieldType), [], tb_S_fail)
theorem mo_S_fail : mi_ok mi_S_fail := by
  show ∀ q ∈ tb_S_fail, decode prog_9_method_12_code q.1 = .ok q.2
  decide +kernel
theorem mw_S_fail : mi_w mi_S_fail 2 := ⟨tb_m 532 (by decide +kernel) (by decide +kernel), tb_m 146 (by decide +kernel) rfl, ⟨by decide +kernel, by decide +kernel, by decide +kernel⟩, by decide +kernel⟩
theorem mv_S_fail : mi_wV mi_S_fail := ⟨tb_m 531 (by decide +kernel) rfl, tb_m 3 (by decide +kernel) rfl⟩
def tb_P_addBlock : List (Nat × Instr × Nat) := [(0, .aload_n 0, 1),
  (1, .getfield 15, 3),
  (4, .aload_n 0, 1),
  (5, .getfield 30, 3),
  (8, .aload_n 0, 1),
  (9, .getfield 34, 3),
  (12, .invokestatic 49, 3),
  (15, .aload_n 0, 1),
  (16, .dup, 1),
  (17, .getfield 30, 3),
  (20, .iconst 1, 1),
  (21, .iadd, 1),
  (22, .putfield 30, 3),
  (25, .aload_n 0, 1),
  (26, .getfield 15, 3),
  (29, .aload_n 0, 1),
  (30, .getfield 30, 3),
  (33, .aload_n 0, 1),
  (34, .getfield 34, 3),
  (37, .invokestatic 49, 3),
  (40, .return_, 1)]
def mi_P_addBlock : mi_T := ("DataflowLab$Program", ({ cls := "DataflowLab$Program", name := "addBlock", desc := "()V" } : MethodName), prog_10_method_13_code, 1, (Option.none : Option FieldType), [], tb_P_addBlock)
theorem mo_P_addBlock : mi_ok mi_P_addBlock := by
  show ∀ q ∈ tb_P_addBlock, decode prog_10_method_13_code q.1 = .ok q.2
  decide +kernel
theorem mw_P_addBlock : mi_w mi_P_addBlock 0 := ⟨tb_m 536 (by decide +kernel) (by decide +kernel), tb_m 145 (by decide +kernel) rfl, ⟨by decide +kernel, by decide +kernel, by decide +kernel⟩, by decide +kernel⟩
theorem mv_P_addBlock : mi_wV mi_P_addBlock := ⟨tb_m 534 (by decide +kernel) rfl, tb_m 535 (by decide +kernel) rfl⟩
def tb_S_parseHead : List (Nat × Instr × Nat) := [(0, .aload_n 0, 1),
  (1, .ldc 88, 2),
  (3, .invokevirtual 90, 3),
  (6, .ifCond .ne 15, 3),
  (9, .aload_n 0, 1),
  (10, .iconst 1, 1),
  (11, .aload_n 0, 1),
  (12, .getfield 94, 3),
  (15, .invokevirtual 97, 3),
  (18, .goto 32, 3),
  (21, .aload_n 1, 1),
  (22, .getfield 75, 3),
  (25, .bipush 12, 2),
  (27, .if_icmp .lt 15, 3),
  (30, .aload_n 0, 1),
  (31, .iconst 3, 1),
  (32, .aload_n 0, 1),
  (33, .getfield 94, 3),
  (36, .invokevirtual 97, 3),
  (39, .goto 11, 3),
  (42, .aload_n 1, 1),
  (43, .invokevirtual 101, 3),
  (46, .aload_n 0, 1),
  (47, .invokevirtual 59, 3),
  (50, .return_, 1)]
def mi_S_parseHead : mi_T := ("DataflowLab$Parser", ({ cls := "DataflowLab$Parser", name := "parseHead", desc := "(LDataflowLab$Program;)V" } : MethodName), prog_9_method_8_code, 2, (Option.none : Option FieldType), [], tb_S_parseHead)
theorem mo_S_parseHead : mi_ok mi_S_parseHead := by
  show ∀ q ∈ tb_S_parseHead, decode prog_9_method_8_code q.1 = .ok q.2
  decide +kernel
theorem mw_S_parseHead : mi_w mi_S_parseHead 1 := ⟨tb_m 523 (by decide +kernel) (by decide +kernel), tb_m 146 (by decide +kernel) rfl, ⟨by decide +kernel, by decide +kernel, by decide +kernel⟩, by decide +kernel⟩
theorem mv_S_parseHead : mi_wV mi_S_parseHead := ⟨tb_m 522 (by decide +kernel) rfl, tb_m 1 (by decide +kernel) rfl⟩
def tb_S_instructionKind : List (Nat × Instr × Nat) := [(0, .aload_n 0, 1),
  (1, .ldc 154, 2),
  (3, .invokevirtual 90, 3),
  (6, .ifCond .eq 5, 3),
  (9, .iconst 0, 1),
  (10, .ireturn, 1),
  (11, .aload_n 0, 1),
  (12, .ldc 156, 2),
  (14, .invokevirtual 90, 3),
  (17, .ifCond .eq 5, 3),
  (20, .iconst 1, 1),
  (21, .ireturn, 1),
  (22, .aload_n 0, 1),
  (23, .ldc 158, 2),
  (25, .invokevirtual 90, 3),
  (28, .ifCond .eq 5, 3),
  (31, .iconst 2, 1),
  (32, .ireturn, 1),
  (33, .aload_n 0, 1),
  (34, .ldc 160, 2),
  (36, .invokevirtual 90, 3),
  (39, .ifCond .eq 7, 3),
  (42, .iconst 3, 1),
  (43, .goto 4, 3),
  (46, .iconst (-1), 1),
  (47, .ireturn, 1)]
def mi_S_instructionKind : mi_T := ("DataflowLab$Parser", ({ cls := "DataflowLab$Parser", name := "instructionKind", desc := "()I" } : MethodName), prog_9_method_13_code, 1, (Option.some FieldType.int), [], tb_S_instructionKind)
theorem mo_S_instructionKind : mi_ok mi_S_instructionKind := by
  show ∀ q ∈ tb_S_instructionKind, decode prog_9_method_13_code q.1 = .ok q.2
  decide +kernel
theorem mw_S_instructionKind : mi_w mi_S_instructionKind 0 := ⟨tb_m 541 (by decide +kernel) (by decide +kernel), tb_m 146 (by decide +kernel) rfl, ⟨by decide +kernel, by decide +kernel, by decide +kernel⟩, by decide +kernel⟩
theorem mv_S_instructionKind : mi_wV mi_S_instructionKind := ⟨tb_m 540 (by decide +kernel) rfl, tb_m 4 (by decide +kernel) rfl⟩
def tb_P_isFull : List (Nat × Instr × Nat) := [(0, .aload_n 0, 1),
  (1, .getfield 34, 3),
  (4, .bipush 40, 2),
  (6, .if_icmp .lt 7, 3),
  (9, .iconst 1, 1),
  (10, .goto 4, 3),
  (13, .iconst 0, 1),
  (14, .ireturn, 1)]
def mi_P_isFull : mi_T := ("DataflowLab$Program", ({ cls := "DataflowLab$Program", name := "isFull", desc := "()Z" } : MethodName), prog_10_method_4_code, 1, (Option.some FieldType.boolean), [], tb_P_isFull)
theorem mo_P_isFull : mi_ok mi_P_isFull := by
  show ∀ q ∈ tb_P_isFull, decode prog_10_method_4_code q.1 = .ok q.2
  decide +kernel
theorem mw_P_isFull : mi_w mi_P_isFull 0 := ⟨tb_m 553 (by decide +kernel) (by decide +kernel), tb_m 145 (by decide +kernel) rfl, ⟨by decide +kernel, by decide +kernel, by decide +kernel⟩, by decide +kernel⟩
theorem mv_P_isFull : mi_wV mi_P_isFull := ⟨tb_m 551 (by decide +kernel) rfl, tb_m 552 (by decide +kernel) rfl⟩
def tb_S_takeVariable : List (Nat × Instr × Nat) := [(0, .aload_n 0, 1),
  (1, .getfield 9, 3),
  (4, .aload_n 0, 1),
  (5, .getfield 94, 3),
  (8, .invokestatic 150, 3),
  (11, .bipush 97, 2),
  (13, .isub, 1),
  (14, .istore_n 1, 1),
  (15, .aload_n 0, 1),
  (16, .getfield 62, 3),
  (19, .iconst 1, 1),
  (20, .if_icmp .ne 22, 3),
  (23, .aload_n 0, 1),
  (24, .getfield 56, 3),
  (27, .aload_n 0, 1),
  (28, .getfield 94, 3),
  (31, .isub, 1),
  (32, .iconst 1, 1),
  (33, .if_icmp .ne 9, 3),
  (36, .iload_n 1, 1),
  (37, .bipush 8, 2),
  (39, .if_icmp .lt 14, 3),
  (42, .aload_n 0, 1),
  (43, .iconst 1, 1),
  (44, .aload_n 0, 1),
  (45, .getfield 94, 3),
  (48, .invokevirtual 97, 3),
  (51, .iconst (-1), 1),
  (52, .ireturn, 1),
  (53, .aload_n 0, 1),
  (54, .invokevirtual 59, 3),
  (57, .iload_n 1, 1),
  (58, .ireturn, 1)]
def mi_S_takeVariable : mi_T := ("DataflowLab$Parser", ({ cls := "DataflowLab$Parser", name := "takeVariable", desc := "()I" } : MethodName), prog_9_method_15_code, 2, (Option.some FieldType.int), [], tb_S_takeVariable)
theorem mo_S_takeVariable : mi_ok mi_S_takeVariable := by
  show ∀ q ∈ tb_S_takeVariable, decode prog_9_method_15_code q.1 = .ok q.2
  decide +kernel
theorem mw_S_takeVariable : mi_w mi_S_takeVariable 0 := ⟨tb_m 557 (by decide +kernel) (by decide +kernel), tb_m 146 (by decide +kernel) rfl, ⟨by decide +kernel, by decide +kernel, by decide +kernel⟩, by decide +kernel⟩
theorem mv_S_takeVariable : mi_wV mi_S_takeVariable := ⟨tb_m 556 (by decide +kernel) rfl, tb_m 6 (by decide +kernel) rfl⟩
def tb_S_takeOperator : List (Nat × Instr × Nat) := [(0, .iconst (-1), 1),
  (1, .istore_n 1, 1),
  (2, .aload_n 0, 1),
  (3, .ldc 162, 2),
  (5, .invokevirtual 90, 3),
  (8, .ifCond .eq 8, 3),
  (11, .iconst 0, 1),
  (12, .istore_n 1, 1),
  (13, .goto 28, 3),
  (16, .aload_n 0, 1),
  (17, .ldc 164, 2),
  (19, .invokevirtual 90, 3),
  (22, .ifCond .eq 8, 3),
  (25, .iconst 1, 1),
  (26, .istore_n 1, 1),
  (27, .goto 14, 3),
  (30, .aload_n 0, 1),
  (31, .ldc 166, 2),
  (33, .invokevirtual 90, 3),
  (36, .ifCond .eq 5, 3),
  (39, .iconst 2, 1),
  (40, .istore_n 1, 1),
  (41, .iload_n 1, 1),
  (42, .iconst (-1), 1),
  (43, .if_icmp .ne 14, 3),
  (46, .aload_n 0, 1),
  (47, .iconst 1, 1),
  (48, .aload_n 0, 1),
  (49, .getfield 94, 3),
  (52, .invokevirtual 97, 3),
  (55, .iconst (-1), 1),
  (56, .ireturn, 1),
  (57, .aload_n 0, 1),
  (58, .invokevirtual 59, 3),
  (61, .iload_n 1, 1),
  (62, .ireturn, 1)]
def mi_S_takeOperator : mi_T := ("DataflowLab$Parser", ({ cls := "DataflowLab$Parser", name := "takeOperator", desc := "()I" } : MethodName), prog_9_method_16_code, 2, (Option.some FieldType.int), [], tb_S_takeOperator)
theorem mo_S_takeOperator : mi_ok mi_S_takeOperator := by
  show ∀ q ∈ tb_S_takeOperator, decode prog_9_method_16_code q.1 = .ok q.2
  decide +kernel
theorem mw_S_takeOperator : mi_w mi_S_takeOperator 0 := ⟨tb_m 561 (by decide +kernel) (by decide +kernel), tb_m 146 (by decide +kernel) rfl, ⟨by decide +kernel, by decide +kernel, by decide +kernel⟩, by decide +kernel⟩
theorem mv_S_takeOperator : mi_wV mi_S_takeOperator := ⟨tb_m 560 (by decide +kernel) rfl, tb_m 7 (by decide +kernel) rfl⟩
def tb_S_takeNumber : List (Nat × Instr × Nat) := [(0, .aload_n 0, 1),
  (1, .getfield 62, 3),
  (4, .iconst 2, 1),
  (5, .if_icmp .ne 11, 3),
  (8, .aload_n 0, 1),
  (9, .getfield 168, 3),
  (12, .iload_n 1, 1),
  (13, .if_icmp .le 26, 3),
  (16, .aload_n 0, 1),
  (17, .aload_n 0, 1),
  (18, .getfield 62, 3),
  (21, .iconst 2, 1),
  (22, .if_icmp .ne 7, 3),
  (25, .iconst 2, 1),
  (26, .goto 4, 3),
  (29, .iconst 1, 1),
  (30, .aload_n 0, 1),
  (31, .getfield 94, 3),
  (34, .invokevirtual 97, 3),
  (37, .iconst (-1), 1),
  (38, .ireturn, 1),
  (39, .aload_n 0, 1),
  (40, .getfield 168, 3),
  (43, .istore_n 2, 1),
  (44, .aload_n 0, 1),
  (45, .invokevirtual 59, 3),
  (48, .iload_n 2, 1),
  (49, .ireturn, 1)]
def mi_S_takeNumber : mi_T := ("DataflowLab$Parser", ({ cls := "DataflowLab$Parser", name := "takeNumber", desc := "(I)I" } : MethodName), prog_9_method_17_code, 3, (Option.some FieldType.int), [], tb_S_takeNumber)
theorem mo_S_takeNumber : mi_ok mi_S_takeNumber := by
  show ∀ q ∈ tb_S_takeNumber, decode prog_9_method_17_code q.1 = .ok q.2
  decide +kernel
theorem mw_S_takeNumber : mi_w mi_S_takeNumber 1 := ⟨tb_m 568 (by decide +kernel) (by decide +kernel), tb_m 146 (by decide +kernel) rfl, ⟨by decide +kernel, by decide +kernel, by decide +kernel⟩, by decide +kernel⟩
theorem mv_S_takeNumber : mi_wV mi_S_takeNumber := ⟨tb_m 567 (by decide +kernel) rfl, tb_m 8 (by decide +kernel) rfl⟩
def tb_O_pack : List (Nat × Instr × Nat) := [(0, .iload_n 0, 1),
  (1, .iload_n 1, 1),
  (2, .iconst 2, 1),
  (3, .ishl, 1),
  (4, .ior, 1),
  (5, .iload_n 2, 1),
  (6, .iconst 5, 1),
  (7, .ishl, 1),
  (8, .ior, 1),
  (9, .iload 4, 2),
  (11, .bipush 8, 2),
  (13, .ishl, 1),
  (14, .ior, 1),
  (15, .iload_n 3, 1),
  (16, .bipush 11, 2),
  (18, .ishl, 1),
  (19, .ior, 1),
  (20, .iload 5, 2),
  (22, .bipush 13, 2),
  (24, .ishl, 1),
  (25, .ior, 1),
  (26, .ireturn, 1)]
def mi_O_pack : mi_T := ("DataflowLab$Code", ({ cls := "DataflowLab$Code", name := "pack", desc := "(IIIIII)I" } : MethodName), prog_3_method_2_code, 6, (Option.some FieldType.int), [], tb_O_pack)
theorem mo_O_pack : mi_ok mi_O_pack := by
  show ∀ q ∈ tb_O_pack, decode prog_3_method_2_code q.1 = .ok q.2
  decide +kernel
theorem mw_O_pack : mi_w mi_O_pack 6 := ⟨tb_m 571 (by decide +kernel) (by decide +kernel), tb_m 160 (by decide +kernel) rfl, ⟨by decide +kernel, by decide +kernel, by decide +kernel⟩, by decide +kernel⟩
theorem mv_O_pack : Cond.static (mi_y mi_O_pack) ∈ tb_G := tb_m 570 (by decide +kernel) rfl
def tb_P_append : List (Nat × Instr × Nat) := [(0, .aload_n 0, 1),
  (1, .getfield 9, 3),
  (4, .aload_n 0, 1),
  (5, .getfield 34, 3),
  (8, .iload_n 1, 1),
  (9, .invokestatic 49, 3),
  (12, .aload_n 0, 1),
  (13, .dup, 1),
  (14, .getfield 34, 3),
  (17, .iconst 1, 1),
  (18, .iadd, 1),
  (19, .putfield 34, 3),
  (22, .aload_n 0, 1),
  (23, .getfield 15, 3),
  (26, .aload_n 0, 1),
  (27, .getfield 30, 3),
  (30, .aload_n 0, 1),
  (31, .getfield 34, 3),
  (34, .invokestatic 49, 3),
  (37, .return_, 1)]
def mi_P_append : mi_T := ("DataflowLab$Program", ({ cls := "DataflowLab$Program", name := "append", desc := "(I)V" } : MethodName), prog_10_method_14_code, 2, (Option.none : Option FieldType), [], tb_P_append)
theorem mo_P_append : mi_ok mi_P_append := by
  show ∀ q ∈ tb_P_append, decode prog_10_method_14_code q.1 = .ok q.2
  decide +kernel
theorem mw_P_append : mi_w mi_P_append 1 := ⟨tb_m 575 (by decide +kernel) (by decide +kernel), tb_m 145 (by decide +kernel) rfl, ⟨by decide +kernel, by decide +kernel, by decide +kernel⟩, by decide +kernel⟩
theorem mv_P_append : mi_wV mi_P_append := ⟨tb_m 573 (by decide +kernel) rfl, tb_m 574 (by decide +kernel) rfl⟩
def tb_S_parseInstruction : List (Nat × Instr × Nat) := [(0, .aload_n 1, 1),
  (1, .invokevirtual 104, 3),
  (4, .ifCond .eq 13, 3),
  (7, .aload_n 0, 1),
  (8, .iconst 3, 1),
  (9, .aload_n 0, 1),
  (10, .getfield 94, 3),
  (13, .invokevirtual 97, 3),
  (16, .return_, 1),
  (17, .aload_n 0, 1),
  (18, .invokevirtual 69, 3),
  (21, .istore_n 2, 1),
  (22, .aload_n 0, 1),
  (23, .invokevirtual 59, 3),
  (26, .iload_n 2, 1),
  (27, .iconst 3, 1),
  (28, .if_icmp .ne 7, 3),
  (31, .iconst 0, 1),
  (32, .goto 7, 3),
  (35, .aload_n 0, 1),
  (36, .invokevirtual 108, 3),
  (39, .istore_n 3, 1),
  (40, .iload_n 2, 1),
  (41, .ifCond .ne 7, 3),
  (44, .iconst 0, 1),
  (45, .goto 7, 3),
  (48, .aload_n 0, 1),
  (49, .invokevirtual 108, 3),
  (52, .istore 4, 2),
  (54, .iload_n 2, 1),
  (55, .iconst 2, 1),
  (56, .if_icmp .ne 10, 3),
  (59, .aload_n 0, 1),
  (60, .invokevirtual 111, 3),
  (63, .goto 4, 3),
  (66, .iconst 0, 1),
  (67, .istore 5, 2),
  (69, .iload_n 2, 1),
  (70, .iconst 2, 1),
  (71, .if_icmp .ne 10, 3),
  (74, .aload_n 0, 1),
  (75, .invokevirtual 108, 3),
  (78, .goto 4, 3),
  (81, .iconst 0, 1),
  (82, .istore 6, 2),
  (84, .iload_n 2, 1),
  (85, .ifCond .ne 13, 3),
  (88, .aload_n 0, 1),
  (89, .sipush 999, 3),
  (92, .invokevirtual 114, 3),
  (95, .goto 4, 3),
  (98, .iconst 0, 1),
  (99, .istore 7, 2),
  (101, .aload_n 0, 1),
  (102, .getfield 48, 3),
  (105, .ifCond .ne 20, 3),
  (108, .aload_n 1, 1),
  (109, .iload_n 2, 1),
  (110, .iload_n 3, 1),
  (111, .iload 4, 2),
  (113, .iload 5, 2),
  (115, .iload 6, 2),
  (117, .iload 7, 2),
  (119, .invokestatic 118, 3),
  (122, .invokevirtual 124, 3),
  (125, .return_, 1)]
def mi_S_parseInstruction : mi_T := ("DataflowLab$Parser", ({ cls := "DataflowLab$Parser", name := "parseInstruction", desc := "(LDataflowLab$Program;)V" } : MethodName), prog_9_method_9_code, 8, (Option.none : Option FieldType), [], tb_S_parseInstruction)
theorem mo_S_parseInstruction : mi_ok mi_S_parseInstruction := by
  show ∀ q ∈ tb_S_parseInstruction, decode prog_9_method_9_code q.1 = .ok q.2
  decide +kernel
theorem mw_S_parseInstruction : mi_w mi_S_parseInstruction 1 := ⟨tb_m 549 (by decide +kernel) (by decide +kernel), tb_m 146 (by decide +kernel) rfl, ⟨by decide +kernel, by decide +kernel, by decide +kernel⟩, by decide +kernel⟩
theorem mv_S_parseInstruction : mi_wV mi_S_parseInstruction := ⟨tb_m 548 (by decide +kernel) rfl, tb_m 5 (by decide +kernel) rfl⟩
def tb_P_exitByStop : List (Nat × Instr × Nat) := [(0, .aload_n 0, 1),
  (1, .getfield 18, 3),
  (4, .iload_n 1, 1),
  (5, .iconst 0, 1),
  (6, .invokestatic 49, 3),
  (9, .return_, 1)]
def mi_P_exitByStop : mi_T := ("DataflowLab$Program", ({ cls := "DataflowLab$Program", name := "exitByStop", desc := "(I)V" } : MethodName), prog_10_method_19_code, 2, (Option.none : Option FieldType), [], tb_P_exitByStop)
theorem mo_P_exitByStop : mi_ok mi_P_exitByStop := by
  show ∀ q ∈ tb_P_exitByStop, decode prog_10_method_19_code q.1 = .ok q.2
  decide +kernel
theorem mw_P_exitByStop : mi_w mi_P_exitByStop 1 := ⟨tb_m 584 (by decide +kernel) (by decide +kernel), tb_m 145 (by decide +kernel) rfl, ⟨by decide +kernel, by decide +kernel, by decide +kernel⟩, by decide +kernel⟩
theorem mv_P_exitByStop : mi_wV mi_P_exitByStop := ⟨tb_m 582 (by decide +kernel) rfl, tb_m 583 (by decide +kernel) rfl⟩
def tb_P_exitByGoto : List (Nat × Instr × Nat) := [(0, .aload_n 0, 1),
  (1, .getfield 18, 3),
  (4, .iload_n 1, 1),
  (5, .iconst 1, 1),
  (6, .invokestatic 49, 3),
  (9, .aload_n 0, 1),
  (10, .getfield 24, 3),
  (13, .iload_n 1, 1),
  (14, .iload_n 2, 1),
  (15, .invokestatic 49, 3),
  (18, .return_, 1)]
def mi_P_exitByGoto : mi_T := ("DataflowLab$Program", ({ cls := "DataflowLab$Program", name := "exitByGoto", desc := "(II)V" } : MethodName), prog_10_method_20_code, 3, (Option.none : Option FieldType), [], tb_P_exitByGoto)
theorem mo_P_exitByGoto : mi_ok mi_P_exitByGoto := by
  show ∀ q ∈ tb_P_exitByGoto, decode prog_10_method_20_code q.1 = .ok q.2
  decide +kernel
theorem mw_P_exitByGoto : mi_w mi_P_exitByGoto 2 := ⟨tb_m 589 (by decide +kernel) (by decide +kernel), tb_m 145 (by decide +kernel) rfl, ⟨by decide +kernel, by decide +kernel, by decide +kernel⟩, by decide +kernel⟩
theorem mv_P_exitByGoto : mi_wV mi_P_exitByGoto := ⟨tb_m 587 (by decide +kernel) rfl, tb_m 588 (by decide +kernel) rfl⟩
def tb_P_exitByBranch : List (Nat × Instr × Nat) := [(0, .aload_n 0, 1),
  (1, .getfield 18, 3),
  (4, .iload_n 1, 1),
  (5, .iconst 2, 1),
  (6, .invokestatic 49, 3),
  (9, .aload_n 0, 1),
  (10, .getfield 21, 3),
  (13, .iload_n 1, 1),
  (14, .iload_n 2, 1),
  (15, .invokestatic 49, 3),
  (18, .aload_n 0, 1),
  (19, .getfield 24, 3),
  (22, .iload_n 1, 1),
  (23, .iload_n 3, 1),
  (24, .invokestatic 49, 3),
  (27, .aload_n 0, 1),
  (28, .getfield 27, 3),
  (31, .iload_n 1, 1),
  (32, .iload 4, 2),
  (34, .invokestatic 49, 3),
  (37, .return_, 1)]
def mi_P_exitByBranch : mi_T := ("DataflowLab$Program", ({ cls := "DataflowLab$Program", name := "exitByBranch", desc := "(IIII)V" } : MethodName), prog_10_method_21_code, 5, (Option.none : Option FieldType), [], tb_P_exitByBranch)
theorem mo_P_exitByBranch : mi_ok mi_P_exitByBranch := by
  show ∀ q ∈ tb_P_exitByBranch, decode prog_10_method_21_code q.1 = .ok q.2
  decide +kernel
theorem mw_P_exitByBranch : mi_w mi_P_exitByBranch 4 := ⟨tb_m 594 (by decide +kernel) (by decide +kernel), tb_m 145 (by decide +kernel) rfl, ⟨by decide +kernel, by decide +kernel, by decide +kernel⟩, by decide +kernel⟩
theorem mv_P_exitByBranch : mi_wV mi_P_exitByBranch := ⟨tb_m 592 (by decide +kernel) rfl, tb_m 593 (by decide +kernel) rfl⟩
def tb_S_parseExit : List (Nat × Instr × Nat) := [(0, .aload_n 0, 1),
  (1, .ldc 127, 2),
  (3, .invokevirtual 90, 3),
  (6, .ifCond .eq 15, 3),
  (9, .aload_n 0, 1),
  (10, .invokevirtual 59, 3),
  (13, .aload_n 1, 1),
  (14, .iload_n 2, 1),
  (15, .invokevirtual 129, 3),
  (18, .goto 122, 3),
  (21, .aload_n 0, 1),
  (22, .ldc 132, 2),
  (24, .invokevirtual 90, 3),
  (27, .ifCond .eq 33, 3),
  (30, .aload_n 0, 1),
  (31, .invokevirtual 59, 3),
  (34, .aload_n 0, 1),
  (35, .getfield 19, 3),
  (38, .iload_n 2, 1),
  (39, .aload_n 0, 1),
  (40, .getfield 94, 3),
  (43, .invokestatic 28, 3),
  (46, .aload_n 1, 1),
  (47, .iload_n 2, 1),
  (48, .aload_n 0, 1),
  (49, .bipush 11, 2),
  (51, .invokevirtual 114, 3),
  (54, .invokevirtual 134, 3),
  (57, .goto 83, 3),
  (60, .aload_n 0, 1),
  (61, .ldc 137, 2),
  (63, .invokevirtual 90, 3),
  (66, .ifCond .eq 65, 3),
  (69, .aload_n 0, 1),
  (70, .invokevirtual 59, 3),
  (73, .aload_n 0, 1),
  (74, .invokevirtual 108, 3),
  (77, .istore_n 3, 1),
  (78, .aload_n 0, 1),
  (79, .getfield 19, 3),
  (82, .iload_n 2, 1),
  (83, .aload_n 0, 1),
  (84, .getfield 94, 3),
  (87, .invokestatic 28, 3),
  (90, .aload_n 0, 1),
  (91, .bipush 11, 2),
  (93, .invokevirtual 114, 3),
  (96, .istore 4, 2),
  (98, .aload_n 0, 1),
  (99, .getfield 22, 3),
  (102, .iload_n 2, 1),
  (103, .aload_n 0, 1),
  (104, .getfield 94, 3),
  (107, .invokestatic 28, 3),
  (110, .aload_n 0, 1),
  (111, .bipush 11, 2),
  (113, .invokevirtual 114, 3),
  (116, .istore 5, 2),
  (118, .aload_n 1, 1),
  (119, .iload_n 2, 1),
  (120, .iload_n 3, 1),
  (121, .iload 4, 2),
  (123, .iload 5, 2),
  (125, .invokevirtual 139, 3),
  (128, .goto 12, 3),
  (131, .aload_n 0, 1),
  (132, .iconst 1, 1),
  (133, .aload_n 0, 1),
  (134, .getfield 94, 3),
  (137, .invokevirtual 97, 3),
  (140, .return_, 1)]
def mi_S_parseExit : mi_T := ("DataflowLab$Parser", ({ cls := "DataflowLab$Parser", name := "parseExit", desc := "(LDataflowLab$Program;I)V" } : MethodName), prog_9_method_10_code, 6, (Option.none : Option FieldType), [], tb_S_parseExit)
theorem mo_S_parseExit : mi_ok mi_S_parseExit := by
  show ∀ q ∈ tb_S_parseExit, decode prog_9_method_10_code q.1 = .ok q.2
  decide +kernel
theorem mw_S_parseExit : mi_w mi_S_parseExit 2 := ⟨tb_m 579 (by decide +kernel) (by decide +kernel), tb_m 146 (by decide +kernel) rfl, ⟨by decide +kernel, by decide +kernel, by decide +kernel⟩, by decide +kernel⟩
theorem mv_S_parseExit : mi_wV mi_S_parseExit := ⟨tb_m 578 (by decide +kernel) rfl, tb_m 9 (by decide +kernel) rfl⟩
def tb_S_takeSemicolon : List (Nat × Instr × Nat) := [(0, .aload_n 0, 1),
  (1, .getfield 62, 3),
  (4, .iconst 3, 1),
  (5, .if_icmp .ne 10, 3),
  (8, .aload_n 0, 1),
  (9, .invokevirtual 59, 3),
  (12, .goto 12, 3),
  (15, .aload_n 0, 1),
  (16, .iconst 1, 1),
  (17, .aload_n 0, 1),
  (18, .getfield 94, 3),
  (21, .invokevirtual 97, 3),
  (24, .return_, 1)]
def mi_S_takeSemicolon : mi_T := ("DataflowLab$Parser", ({ cls := "DataflowLab$Parser", name := "takeSemicolon", desc := "()V" } : MethodName), prog_9_method_14_code, 1, (Option.none : Option FieldType), [], tb_S_takeSemicolon)
theorem mo_S_takeSemicolon : mi_ok mi_S_takeSemicolon := by
  show ∀ q ∈ tb_S_takeSemicolon, decode prog_9_method_14_code q.1 = .ok q.2
  decide +kernel
theorem mw_S_takeSemicolon : mi_w mi_S_takeSemicolon 0 := ⟨tb_m 598 (by decide +kernel) (by decide +kernel), tb_m 146 (by decide +kernel) rfl, ⟨by decide +kernel, by decide +kernel, by decide +kernel⟩, by decide +kernel⟩
theorem mv_S_takeSemicolon : mi_wV mi_S_takeSemicolon := ⟨tb_m 597 (by decide +kernel) rfl, tb_m 10 (by decide +kernel) rfl⟩
def tb_P_wayCount : List (Nat × Instr × Nat) := [(0, .aload_n 0, 1),
  (1, .getfield 18, 3),
  (4, .iload_n 1, 1),
  (5, .invokestatic 41, 3),
  (8, .ireturn, 1)]
def mi_P_wayCount : mi_T := ("DataflowLab$Program", ({ cls := "DataflowLab$Program", name := "wayCount", desc := "(I)I" } : MethodName), prog_10_method_9_code, 2, (Option.some FieldType.int), [], tb_P_wayCount)
theorem mo_P_wayCount : mi_ok mi_P_wayCount := by
  show ∀ q ∈ tb_P_wayCount, decode prog_10_method_9_code q.1 = .ok q.2
  decide +kernel
theorem mw_P_wayCount : mi_w mi_P_wayCount 1 := ⟨tb_m 606 (by decide +kernel) (by decide +kernel), tb_m 145 (by decide +kernel) rfl, ⟨by decide +kernel, by decide +kernel, by decide +kernel⟩, by decide +kernel⟩
theorem mv_P_wayCount : mi_wV mi_P_wayCount := ⟨tb_m 604 (by decide +kernel) rfl, tb_m 605 (by decide +kernel) rfl⟩
def tb_P_wayOf : List (Nat × Instr × Nat) := [(0, .iload_n 2, 1),
  (1, .ifCond .ne 14, 3),
  (4, .aload_n 0, 1),
  (5, .getfield 24, 3),
  (8, .iload_n 1, 1),
  (9, .invokestatic 41, 3),
  (12, .goto 11, 3),
  (15, .aload_n 0, 1),
  (16, .getfield 27, 3),
  (19, .iload_n 1, 1),
  (20, .invokestatic 41, 3),
  (23, .ireturn, 1)]
def mi_P_wayOf : mi_T := ("DataflowLab$Program", ({ cls := "DataflowLab$Program", name := "wayOf", desc := "(II)I" } : MethodName), prog_10_method_10_code, 3, (Option.some FieldType.int), [], tb_P_wayOf)
theorem mo_P_wayOf : mi_ok mi_P_wayOf := by
  show ∀ q ∈ tb_P_wayOf, decode prog_10_method_10_code q.1 = .ok q.2
  decide +kernel
theorem mw_P_wayOf : mi_w mi_P_wayOf 2 := ⟨tb_m 611 (by decide +kernel) (by decide +kernel), tb_m 145 (by decide +kernel) rfl, ⟨by decide +kernel, by decide +kernel, by decide +kernel⟩, by decide +kernel⟩
theorem mv_P_wayOf : mi_wV mi_P_wayOf := ⟨tb_m 609 (by decide +kernel) rfl, tb_m 610 (by decide +kernel) rfl⟩
def tb_S_checkExits : List (Nat × Instr × Nat) := [(0, .iconst 0, 1),
  (1, .istore_n 2, 1),
  (2, .iload_n 2, 1),
  (3, .aload_n 1, 1),
  (4, .getfield 75, 3),
  (7, .if_icmp .ge 78, 3),
  (10, .aload_n 1, 1),
  (11, .iload_n 2, 1),
  (12, .invokevirtual 143, 3),
  (15, .ifCond .le 29, 3),
  (18, .aload_n 1, 1),
  (19, .iload_n 2, 1),
  (20, .iconst 0, 1),
  (21, .invokevirtual 146, 3),
  (24, .aload_n 1, 1),
  (25, .getfield 75, 3),
  (28, .if_icmp .lt 16, 3),
  (31, .aload_n 0, 1),
  (32, .iconst 4, 1),
  (33, .aload_n 0, 1),
  (34, .getfield 19, 3),
  (37, .iload_n 2, 1),
  (38, .invokestatic 150, 3),
  (41, .invokevirtual 97, 3),
  (44, .aload_n 1, 1),
  (45, .iload_n 2, 1),
  (46, .invokevirtual 143, 3),
  (49, .iconst 1, 1),
  (50, .if_icmp .le 29, 3),
  (53, .aload_n 1, 1),
  (54, .iload_n 2, 1),
  (55, .iconst 1, 1),
  (56, .invokevirtual 146, 3),
  (59, .aload_n 1, 1),
  (60, .getfield 75, 3),
  (63, .if_icmp .lt 16, 3),
  (66, .aload_n 0, 1),
  (67, .iconst 4, 1),
  (68, .aload_n 0, 1),
  (69, .getfield 22, 3),
  (72, .iload_n 2, 1),
  (73, .invokestatic 150, 3),
  (76, .invokevirtual 97, 3),
  (79, .iinc 2 1, 3),
  (82, .goto (-80), 3),
  (85, .return_, 1)]
def mi_S_checkExits : mi_T := ("DataflowLab$Parser", ({ cls := "DataflowLab$Parser", name := "checkExits", desc := "(LDataflowLab$Program;)V" } : MethodName), prog_9_method_11_code, 3, (Option.none : Option FieldType), [], tb_S_checkExits)
theorem mo_S_checkExits : mi_ok mi_S_checkExits := by
  show ∀ q ∈ tb_S_checkExits, decode prog_9_method_11_code q.1 = .ok q.2
  decide +kernel
theorem mw_S_checkExits : mi_w mi_S_checkExits 1 := ⟨tb_m 602 (by decide +kernel) (by decide +kernel), tb_m 146 (by decide +kernel) rfl, ⟨by decide +kernel, by decide +kernel, by decide +kernel⟩, by decide +kernel⟩
theorem mv_S_checkExits : mi_wV mi_S_checkExits := ⟨tb_m 601 (by decide +kernel) rfl, tb_m 11 (by decide +kernel) rfl⟩
def tb_S_parse : List (Nat × Instr × Nat) := [(0, .aload_n 0, 1),
  (1, .iconst 0, 1),
  (2, .putfield 48, 3),
  (5, .aload_n 0, 1),
  (6, .iconst (-1), 1),
  (7, .putfield 15, 3),
  (10, .aload_n 1, 1),
  (11, .invokevirtual 51, 3),
  (14, .aload_n 0, 1),
  (15, .iconst 0, 1),
  (16, .putfield 56, 3),
  (19, .aload_n 0, 1),
  (20, .invokevirtual 59, 3),
  (23, .iconst 0, 1),
  (24, .istore_n 2, 1),
  (25, .iconst 0, 1),
  (26, .istore_n 3, 1),
  (27, .iload_n 3, 1),
  (28, .sipush 700, 3),
  (31, .if_icmp .gt 78, 3),
  (34, .aload_n 0, 1),
  (35, .getfield 48, 3),
  (38, .ifCond .ne 71, 3),
  (41, .iload_n 3, 1),
  (42, .ifCond .eq 14, 3),
  (45, .iload_n 2, 1),
  (46, .ifCond .ne 10, 3),
  (49, .aload_n 0, 1),
  (50, .getfield 62, 3),
  (53, .ifCond .eq 56, 3),
  (56, .iload_n 2, 1),
  (57, .ifCond .ne 13, 3),
  (60, .aload_n 0, 1),
  (61, .aload_n 1, 1),
  (62, .invokevirtual 65, 3),
  (65, .iconst 1, 1),
  (66, .istore_n 2, 1),
  (67, .goto 32, 3),
  (70, .aload_n 0, 1),
  (71, .invokevirtual 69, 3),
  (74, .iconst (-1), 1),
  (75, .if_icmp .eq 11, 3),
  (78, .aload_n 0, 1),
  (79, .aload_n 1, 1),
  (80, .invokevirtual 72, 3),
  (83, .goto 16, 3),
  (86, .aload_n 0, 1),
  (87, .aload_n 1, 1),
  (88, .aload_n 1, 1),
  (89, .getfield 75, 3),
  (92, .iconst 1, 1),
  (93, .isub, 1),
  (94, .invokevirtual 78, 3),
  (97, .iconst 0, 1),
  (98, .istore_n 2, 1),
  (99, .aload_n 0, 1),
  (100, .invokevirtual 82, 3),
  (103, .iinc 3 1, 3),
  (106, .goto (-79), 3),
  (109, .aload_n 0, 1),
  (110, .aload_n 1, 1),
  (111, .invokevirtual 85, 3),
  (114, .aload_n 0, 1),
  (115, .getfield 48, 3),
  (118, .ifCond .ne 7, 3),
  (121, .iconst 1, 1),
  (122, .goto 4, 3),
  (125, .iconst 0, 1),
  (126, .ireturn, 1)]
def mi_S_parse : mi_T := ("DataflowLab$Parser", ({ cls := "DataflowLab$Parser", name := "parse", desc := "(LDataflowLab$Program;)Z" } : MethodName), prog_9_method_7_code, 4, (Option.some FieldType.boolean), [], tb_S_parse)
theorem mo_S_parse : mi_ok mi_S_parse := by
  show ∀ q ∈ tb_S_parse, decode prog_9_method_7_code q.1 = .ok q.2
  decide +kernel
theorem mw_S_parse : mi_w mi_S_parse 1 := ⟨tb_m 496 (by decide +kernel) (by decide +kernel), tb_m 146 (by decide +kernel) rfl, ⟨by decide +kernel, by decide +kernel, by decide +kernel⟩, by decide +kernel⟩
theorem mv_S_parse : mi_wV mi_S_parse := ⟨tb_m 494 (by decide +kernel) rfl, tb_m 495 (by decide +kernel) rfl⟩
def tb_D_firstProgram : List (Nat × Instr × Nat) := [(0, .new 16, 3),
  (3, .dup, 1),
  (4, .invokespecial 18, 3),
  (7, .astore_n 0, 1),
  (8, .new 7, 3),
  (11, .dup, 1),
  (12, .invokespecial 9, 3),
  (15, .astore_n 1, 1),
  (16, .aload_n 0, 1),
  (17, .ldc_w 461, 3),
  (20, .invokevirtual 463, 3),
  (23, .aload_n 0, 1),
  (24, .aload_n 1, 1),
  (25, .invokevirtual 113, 3),
  (28, .pop, 1),
  (29, .aload_n 1, 1),
  (30, .areturn, 1)]
def mi_D_firstProgram : mi_T := ("DataflowLab", ({ cls := "DataflowLab", name := "firstProgram", desc := "()LDataflowLab$Program;" } : MethodName), prog_1_method_70_code, 2, (Option.some (FieldType.object "DataflowLab$Program")), [], tb_D_firstProgram)
theorem mo_D_firstProgram : mi_ok mi_D_firstProgram := by
  show ∀ q ∈ tb_D_firstProgram, decode prog_1_method_70_code q.1 = .ok q.2
  decide +kernel
theorem mw_D_firstProgram : mi_w mi_D_firstProgram 0 := ⟨tb_m 428 (by decide +kernel) (by decide +kernel), tb_m 144 (by decide +kernel) rfl, ⟨by decide +kernel, by decide +kernel, by decide +kernel⟩, by decide +kernel⟩
theorem mv_D_firstProgram : Cond.static (mi_y mi_D_firstProgram) ∈ tb_G := tb_m 427 (by decide +kernel) rfl
def tb_D_init : List (Nat × Instr × Nat) := [(0, .aload_n 0, 1),
  (1, .invokespecial 1, 3),
  (4, .aload_n 0, 1),
  (5, .new 7, 3),
  (8, .dup, 1),
  (9, .invokespecial 9, 3),
  (12, .putfield 10, 3),
  (15, .aload_n 0, 1),
  (16, .new 16, 3),
  (19, .dup, 1),
  (20, .invokespecial 18, 3),
  (23, .putfield 19, 3),
  (26, .aload_n 0, 1),
  (27, .new 23, 3),
  (30, .dup, 1),
  (31, .invokespecial 25, 3),
  (34, .putfield 26, 3),
  (37, .aload_n 0, 1),
  (38, .new 30, 3),
  (41, .dup, 1),
  (42, .invokespecial 32, 3),
  (45, .putfield 33, 3),
  (48, .aload_n 0, 1),
  (49, .iconst 2, 1),
  (50, .anewarray 7, 3),
  (53, .putfield 37, 3),
  (56, .aload_n 0, 1),
  (57, .new 41, 3),
  (60, .dup, 1),
  (61, .invokespecial 43, 3),
  (64, .putfield 44, 3),
  (67, .aload_n 0, 1),
  (68, .new 48, 3),
  (71, .dup, 1),
  (72, .invokespecial 50, 3),
  (75, .putfield 51, 3),
  (78, .aload_n 0, 1),
  (79, .new 55, 3),
  (82, .dup, 1),
  (83, .invokespecial 57, 3),
  (86, .putfield 58, 3),
  (89, .aload_n 0, 1),
  (90, .new 62, 3),
  (93, .dup, 1),
  (94, .invokespecial 64, 3),
  (97, .putfield 65, 3),
  (100, .aload_n 0, 1),
  (101, .new 69, 3),
  (104, .dup, 1),
  (105, .invokespecial 71, 3),
  (108, .putfield 72, 3),
  (111, .aload_n 0, 1),
  (112, .new 76, 3),
  (115, .dup, 1),
  (116, .invokespecial 78, 3),
  (119, .putfield 79, 3),
  (122, .aload_n 0, 1),
  (123, .invokestatic 83, 3),
  (126, .putfield 87, 3),
  (129, .return_, 1)]
def mi_D_init : mi_T := ("DataflowLab", ({ cls := "DataflowLab", name := "<init>", desc := "()V" } : MethodName), prog_1_method_1_code, 1, (Option.none : Option FieldType), [], tb_D_init)
theorem mo_D_init : mi_ok mi_D_init := by
  show ∀ q ∈ tb_D_init, decode prog_1_method_1_code q.1 = .ok q.2
  decide +kernel
theorem mw_D_init : mi_w mi_D_init 0 := ⟨tb_m 175 (by decide +kernel) (by decide +kernel), tb_m 144 (by decide +kernel) rfl, ⟨by decide +kernel, by decide +kernel, by decide +kernel⟩, by decide +kernel⟩
theorem mv_D_init : Cond.instanceMethod (mi_y mi_D_init) ∈ tb_G := tb_m 174 (by decide +kernel) rfl
def tb_S_textLength : List (Nat × Instr × Nat) := [(0, .aload_n 0, 1),
  (1, .getfield 25, 3),
  (4, .ireturn, 1)]
def mi_S_textLength : mi_T := ("DataflowLab$Parser", ({ cls := "DataflowLab$Parser", name := "textLength", desc := "()I" } : MethodName), prog_9_method_2_code, 1, (Option.some FieldType.int), [], tb_S_textLength)
theorem mo_S_textLength : mi_ok mi_S_textLength := by
  show ∀ q ∈ tb_S_textLength, decode prog_9_method_2_code q.1 = .ok q.2
  decide +kernel
theorem mw_S_textLength : mi_w mi_S_textLength 0 := ⟨tb_m 1153 (by decide +kernel) (by decide +kernel), tb_m 146 (by decide +kernel) rfl, ⟨by decide +kernel, by decide +kernel, by decide +kernel⟩, by decide +kernel⟩
theorem mv_S_textLength : mi_wV mi_S_textLength := ⟨tb_m 1151 (by decide +kernel) rfl, tb_m 1152 (by decide +kernel) rfl⟩
def tb_D_appendText : List (Nat × Instr × Nat) := [(0, .aload_n 0, 1),
  (1, .getfield 19, 3),
  (4, .invokevirtual 90, 3),
  (7, .iconst 4, 1),
  (8, .iadd, 1),
  (9, .sipush 700, 3),
  (12, .if_icmp .le 13, 3),
  (15, .new 94, 3),
  (18, .dup, 1),
  (19, .ldc 96, 2),
  (21, .invokespecial 98, 3),
  (24, .athrow, 1),
  (25, .bipush 24, 2),
  (27, .istore_n 2, 1),
  (28, .iload_n 2, 1),
  (29, .ifCond .lt 23, 3),
  (32, .aload_n 0, 1),
  (33, .getfield 19, 3),
  (36, .iload_n 1, 1),
  (37, .iload_n 2, 1),
  (38, .iushr, 1),
  (39, .sipush 255, 3),
  (42, .iand, 1),
  (43, .invokevirtual 101, 3),
  (46, .iinc 2 (-8), 3),
  (49, .goto (-21), 3),
  (52, .aload_n 0, 1),
  (53, .getfield 19, 3),
  (56, .invokevirtual 90, 3),
  (59, .ireturn, 1)]
def mi_D_appendText : mi_T := ("DataflowLab", ({ cls := "DataflowLab", name := "appendText", desc := "(I)I" } : MethodName), prog_1_method_2_code, 3, (Option.some FieldType.int), [], tb_D_appendText)
theorem mo_D_appendText : mi_ok mi_D_appendText := by
  show ∀ q ∈ tb_D_appendText, decode prog_1_method_2_code q.1 = .ok q.2
  decide +kernel
theorem mw_D_appendText : mi_w mi_D_appendText 1 := ⟨tb_m 1149 (by decide +kernel) (by decide +kernel), tb_m 144 (by decide +kernel) rfl, ⟨by decide +kernel, by decide +kernel, by decide +kernel⟩, by decide +kernel⟩
theorem mv_D_appendText : mi_wV mi_D_appendText := ⟨tb_m 1147 (by decide +kernel) rfl, tb_m 1148 (by decide +kernel) rfl⟩
def tb_S_cutBuffer : List (Nat × Instr × Nat) := [(0, .aload_n 0, 1),
  (1, .iload_n 1, 1),
  (2, .putfield 25, 3),
  (5, .return_, 1)]
def mi_S_cutBuffer : mi_T := ("DataflowLab$Parser", ({ cls := "DataflowLab$Parser", name := "cutBuffer", desc := "(I)V" } : MethodName), prog_9_method_4_code, 2, (Option.none : Option FieldType), [], tb_S_cutBuffer)
theorem mo_S_cutBuffer : mi_ok mi_S_cutBuffer := by
  show ∀ q ∈ tb_S_cutBuffer, decode prog_9_method_4_code q.1 = .ok q.2
  decide +kernel
theorem mw_S_cutBuffer : mi_w mi_S_cutBuffer 1 := ⟨tb_m 1250 (by decide +kernel) (by decide +kernel), tb_m 146 (by decide +kernel) rfl, ⟨by decide +kernel, by decide +kernel, by decide +kernel⟩, by decide +kernel⟩
theorem mv_S_cutBuffer : mi_wV mi_S_cutBuffer := ⟨tb_m 1248 (by decide +kernel) rfl, tb_m 1249 (by decide +kernel) rfl⟩
def tb_D_truncateText : List (Nat × Instr × Nat) := [(0, .iload_n 1, 1),
  (1, .ifCond .lt 14, 3),
  (4, .iload_n 1, 1),
  (5, .aload_n 0, 1),
  (6, .getfield 19, 3),
  (9, .invokevirtual 90, 3),
  (12, .if_icmp .le 13, 3),
  (15, .new 105, 3),
  (18, .dup, 1),
  (19, .ldc 107, 2),
  (21, .invokespecial 109, 3),
  (24, .athrow, 1),
  (25, .aload_n 0, 1),
  (26, .getfield 19, 3),
  (29, .iload_n 1, 1),
  (30, .invokevirtual 110, 3),
  (33, .iload_n 1, 1),
  (34, .ireturn, 1)]
def mi_D_truncateText : mi_T := ("DataflowLab", ({ cls := "DataflowLab", name := "truncateText", desc := "(I)I" } : MethodName), prog_1_method_3_code, 2, (Option.some FieldType.int), [], tb_D_truncateText)
theorem mo_D_truncateText : mi_ok mi_D_truncateText := by
  show ∀ q ∈ tb_D_truncateText, decode prog_1_method_3_code q.1 = .ok q.2
  decide +kernel
theorem mw_D_truncateText : mi_w mi_D_truncateText 1 := ⟨tb_m 1230 (by decide +kernel) (by decide +kernel), tb_m 144 (by decide +kernel) rfl, ⟨by decide +kernel, by decide +kernel, by decide +kernel⟩, by decide +kernel⟩
theorem mv_D_truncateText : mi_wV mi_D_truncateText := ⟨tb_m 1228 (by decide +kernel) rfl, tb_m 1229 (by decide +kernel) rfl⟩
def tb_D_copy : List (Nat × Instr × Nat) := [(0, .iconst 0, 1),
  (1, .istore_n 2, 1),
  (2, .iload_n 2, 1),
  (3, .aload_n 0, 1),
  (4, .arraylength, 1),
  (5, .if_icmp .ge 21, 3),
  (8, .iload_n 2, 1),
  (9, .aload_n 1, 1),
  (10, .arraylength, 1),
  (11, .if_icmp .ge 15, 3),
  (14, .aload_n 1, 1),
  (15, .iload_n 2, 1),
  (16, .aload_n 0, 1),
  (17, .iload_n 2, 1),
  (18, .iaload, 1),
  (19, .iastore, 1),
  (20, .iinc 2 1, 3),
  (23, .goto (-21), 3),
  (26, .return_, 1)]
def mi_D_copy : mi_T := ("DataflowLab", ({ cls := "DataflowLab", name := "copy", desc := "([I[I)V" } : MethodName), prog_1_method_86_code, 3, (Option.none : Option FieldType), [], tb_D_copy)
theorem mo_D_copy : mi_ok mi_D_copy := by
  show ∀ q ∈ tb_D_copy, decode prog_1_method_86_code q.1 = .ok q.2
  decide +kernel
theorem mw_D_copy : mi_w mi_D_copy 2 := ⟨tb_m 665 (by decide +kernel) (by decide +kernel), tb_m 144 (by decide +kernel) rfl, ⟨by decide +kernel, by decide +kernel, by decide +kernel⟩, by decide +kernel⟩
theorem mv_D_copy : Cond.static (mi_y mi_D_copy) ∈ tb_G := tb_m 664 (by decide +kernel) rfl
def tb_P_copyFrom : List (Nat × Instr × Nat) := [(0, .aload_n 0, 1),
  (1, .aload_n 1, 1),
  (2, .getfield 30, 3),
  (5, .putfield 30, 3),
  (8, .aload_n 0, 1),
  (9, .aload_n 1, 1),
  (10, .getfield 34, 3),
  (13, .putfield 34, 3),
  (16, .aload_n 1, 1),
  (17, .getfield 9, 3),
  (20, .aload_n 0, 1),
  (21, .getfield 9, 3),
  (24, .invokestatic 37, 3),
  (27, .aload_n 1, 1),
  (28, .getfield 15, 3),
  (31, .aload_n 0, 1),
  (32, .getfield 15, 3),
  (35, .invokestatic 37, 3),
  (38, .aload_n 1, 1),
  (39, .getfield 18, 3),
  (42, .aload_n 0, 1),
  (43, .getfield 18, 3),
  (46, .invokestatic 37, 3),
  (49, .aload_n 1, 1),
  (50, .getfield 21, 3),
  (53, .aload_n 0, 1),
  (54, .getfield 21, 3),
  (57, .invokestatic 37, 3),
  (60, .aload_n 1, 1),
  (61, .getfield 24, 3),
  (64, .aload_n 0, 1),
  (65, .getfield 24, 3),
  (68, .invokestatic 37, 3),
  (71, .aload_n 1, 1),
  (72, .getfield 27, 3),
  (75, .aload_n 0, 1),
  (76, .getfield 27, 3),
  (79, .invokestatic 37, 3),
  (82, .return_, 1)]
def mi_P_copyFrom : mi_T := ("DataflowLab$Program", ({ cls := "DataflowLab$Program", name := "copyFrom", desc := "(LDataflowLab$Program;)V" } : MethodName), prog_10_method_3_code, 2, (Option.none : Option FieldType), [], tb_P_copyFrom)
theorem mo_P_copyFrom : mi_ok mi_P_copyFrom := by
  show ∀ q ∈ tb_P_copyFrom, decode prog_10_method_3_code q.1 = .ok q.2
  decide +kernel
theorem mw_P_copyFrom : mi_w mi_P_copyFrom 1 := ⟨tb_m 662 (by decide +kernel) (by decide +kernel), tb_m 145 (by decide +kernel) rfl, ⟨by decide +kernel, by decide +kernel, by decide +kernel⟩, by decide +kernel⟩
theorem mv_P_copyFrom : mi_wV mi_P_copyFrom := ⟨tb_m 660 (by decide +kernel) rfl, tb_m 661 (by decide +kernel) rfl⟩
def tb_H_clear : List (Nat × Instr × Nat) := [(0, .aload_n 0, 1),
  (1, .iconst 0, 1),
  (2, .putfield 17, 3),
  (5, .return_, 1)]
def mi_H_clear : mi_T := ("DataflowLab$History", ({ cls := "DataflowLab$History", name := "clear", desc := "()V" } : MethodName), prog_6_method_2_code, 1, (Option.none : Option FieldType), [], tb_H_clear)
theorem mo_H_clear : mi_ok mi_H_clear := by
  show ∀ q ∈ tb_H_clear, decode prog_6_method_2_code q.1 = .ok q.2
  decide +kernel
theorem mw_H_clear : mi_w mi_H_clear 0 := ⟨tb_m 669 (by decide +kernel) (by decide +kernel), tb_m 148 (by decide +kernel) rfl, ⟨by decide +kernel, by decide +kernel, by decide +kernel⟩, by decide +kernel⟩
theorem mv_H_clear : mi_wV mi_H_clear := ⟨tb_m 667 (by decide +kernel) rfl, tb_m 668 (by decide +kernel) rfl⟩
def tb_D_forgetAnalyses : List (Nat × Instr × Nat) := [(0, .aload_n 0, 1),
  (1, .getfield 44, 3),
  (4, .iconst 0, 1),
  (5, .putfield 471, 3),
  (8, .aload_n 0, 1),
  (9, .getfield 51, 3),
  (12, .iconst 0, 1),
  (13, .putfield 474, 3),
  (16, .aload_n 0, 1),
  (17, .getfield 58, 3),
  (20, .iconst 0, 1),
  (21, .putfield 475, 3),
  (24, .aload_n 0, 1),
  (25, .getfield 65, 3),
  (28, .iconst 0, 1),
  (29, .putfield 476, 3),
  (32, .aload_n 0, 1),
  (33, .getfield 72, 3),
  (36, .iconst 0, 1),
  (37, .putfield 477, 3),
  (40, .return_, 1)]
def mi_D_forgetAnalyses : mi_T := ("DataflowLab", ({ cls := "DataflowLab", name := "forgetAnalyses", desc := "()V" } : MethodName), prog_1_method_74_code, 1, (Option.none : Option FieldType), [], tb_D_forgetAnalyses)
theorem mo_D_forgetAnalyses : mi_ok mi_D_forgetAnalyses := by
  show ∀ q ∈ tb_D_forgetAnalyses, decode prog_1_method_74_code q.1 = .ok q.2
  decide +kernel
theorem mw_D_forgetAnalyses : mi_w mi_D_forgetAnalyses 0 := ⟨tb_m 673 (by decide +kernel) (by decide +kernel), tb_m 144 (by decide +kernel) rfl, ⟨by decide +kernel, by decide +kernel, by decide +kernel⟩, by decide +kernel⟩
theorem mv_D_forgetAnalyses : mi_wV mi_D_forgetAnalyses := ⟨tb_m 672 (by decide +kernel) rfl, tb_m 13 (by decide +kernel) rfl⟩
def tb_D_replaceProgram : List (Nat × Instr × Nat) := [(0, .aload_n 0, 1),
  (1, .getfield 87, 3),
  (4, .aload_n 1, 1),
  (5, .invokevirtual 431, 3),
  (8, .aload_n 0, 1),
  (9, .getfield 33, 3),
  (12, .invokevirtual 470, 3),
  (15, .aload_n 0, 1),
  (16, .invokevirtual 374, 3),
  (19, .return_, 1)]
def mi_D_replaceProgram : mi_T := ("DataflowLab", ({ cls := "DataflowLab", name := "replaceProgram", desc := "(LDataflowLab$Program;)V" } : MethodName), prog_1_method_73_code, 2, (Option.none : Option FieldType), [], tb_D_replaceProgram)
theorem mo_D_replaceProgram : mi_ok mi_D_replaceProgram := by
  show ∀ q ∈ tb_D_replaceProgram, decode prog_1_method_73_code q.1 = .ok q.2
  decide +kernel
theorem mw_D_replaceProgram : mi_w mi_D_replaceProgram 1 := ⟨tb_m 658 (by decide +kernel) (by decide +kernel), tb_m 144 (by decide +kernel) rfl, ⟨by decide +kernel, by decide +kernel, by decide +kernel⟩, by decide +kernel⟩
theorem mv_D_replaceProgram : mi_wV mi_D_replaceProgram := ⟨tb_m 657 (by decide +kernel) rfl, tb_m 12 (by decide +kernel) rfl⟩
def tb_D_loadProgram : List (Nat × Instr × Nat) := [(0, .aload_n 0, 1),
  (1, .getfield 19, 3),
  (4, .aload_n 0, 1),
  (5, .getfield 10, 3),
  (8, .invokevirtual 113, 3),
  (11, .istore_n 1, 1),
  (12, .aload_n 0, 1),
  (13, .getfield 19, 3),
  (16, .invokevirtual 117, 3),
  (19, .iload_n 1, 1),
  (20, .ifCond .ne 5, 3),
  (23, .iconst (-1), 1),
  (24, .ireturn, 1),
  (25, .aload_n 0, 1),
  (26, .aload_n 0, 1),
  (27, .getfield 10, 3),
  (30, .invokevirtual 120, 3),
  (33, .aload_n 0, 1),
  (34, .getfield 87, 3),
  (37, .getfield 124, 3),
  (40, .ireturn, 1)]
def mi_D_loadProgram : mi_T := ("DataflowLab", ({ cls := "DataflowLab", name := "loadProgram", desc := "()I" } : MethodName), prog_1_method_4_code, 2, (Option.some FieldType.int), [], tb_D_loadProgram)
theorem mo_D_loadProgram : mi_ok mi_D_loadProgram := by
  show ∀ q ∈ tb_D_loadProgram, decode prog_1_method_4_code q.1 = .ok q.2
  decide +kernel
theorem mw_D_loadProgram : mi_w mi_D_loadProgram 0 := ⟨tb_m 653 (by decide +kernel) (by decide +kernel), tb_m 144 (by decide +kernel) rfl, ⟨by decide +kernel, by decide +kernel, by decide +kernel⟩, by decide +kernel⟩
theorem mv_D_loadProgram : mi_wV mi_D_loadProgram := ⟨tb_m 651 (by decide +kernel) rfl, tb_m 652 (by decide +kernel) rfl⟩
def tb_D_errorCode : List (Nat × Instr × Nat) := [(0, .aload_n 0, 1),
  (1, .getfield 19, 3),
  (4, .getfield 128, 3),
  (7, .ireturn, 1)]
def mi_D_errorCode : mi_T := ("DataflowLab", ({ cls := "DataflowLab", name := "errorCode", desc := "()I" } : MethodName), prog_1_method_5_code, 1, (Option.some FieldType.int), [], tb_D_errorCode)
theorem mo_D_errorCode : mi_ok mi_D_errorCode := by
  show ∀ q ∈ tb_D_errorCode, decode prog_1_method_5_code q.1 = .ok q.2
  decide +kernel
theorem mw_D_errorCode : mi_w mi_D_errorCode 0 := ⟨tb_m 677 (by decide +kernel) (by decide +kernel), tb_m 144 (by decide +kernel) rfl, ⟨by decide +kernel, by decide +kernel, by decide +kernel⟩, by decide +kernel⟩
theorem mv_D_errorCode : mi_wV mi_D_errorCode := ⟨tb_m 675 (by decide +kernel) rfl, tb_m 676 (by decide +kernel) rfl⟩
def tb_D_errorPosition : List (Nat × Instr × Nat) := [(0, .aload_n 0, 1),
  (1, .getfield 19, 3),
  (4, .getfield 131, 3),
  (7, .ireturn, 1)]
def mi_D_errorPosition : mi_T := ("DataflowLab", ({ cls := "DataflowLab", name := "errorPosition", desc := "()I" } : MethodName), prog_1_method_6_code, 1, (Option.some FieldType.int), [], tb_D_errorPosition)
theorem mo_D_errorPosition : mi_ok mi_D_errorPosition := by
  show ∀ q ∈ tb_D_errorPosition, decode prog_1_method_6_code q.1 = .ok q.2
  decide +kernel
theorem mw_D_errorPosition : mi_w mi_D_errorPosition 0 := ⟨tb_m 681 (by decide +kernel) (by decide +kernel), tb_m 144 (by decide +kernel) rfl, ⟨by decide +kernel, by decide +kernel, by decide +kernel⟩, by decide +kernel⟩
theorem mv_D_errorPosition : mi_wV mi_D_errorPosition := ⟨tb_m 679 (by decide +kernel) rfl, tb_m 680 (by decide +kernel) rfl⟩
def tb_D_blockCount : List (Nat × Instr × Nat) := [(0, .aload_n 0, 1),
  (1, .getfield 87, 3),
  (4, .getfield 124, 3),
  (7, .ireturn, 1)]
def mi_D_blockCount : mi_T := ("DataflowLab", ({ cls := "DataflowLab", name := "blockCount", desc := "()I" } : MethodName), prog_1_method_7_code, 1, (Option.some FieldType.int), [], tb_D_blockCount)
theorem mo_D_blockCount : mi_ok mi_D_blockCount := by
  show ∀ q ∈ tb_D_blockCount, decode prog_1_method_7_code q.1 = .ok q.2
  decide +kernel
theorem mw_D_blockCount : mi_w mi_D_blockCount 0 := ⟨tb_m 685 (by decide +kernel) (by decide +kernel), tb_m 144 (by decide +kernel) rfl, ⟨by decide +kernel, by decide +kernel, by decide +kernel⟩, by decide +kernel⟩
theorem mv_D_blockCount : mi_wV mi_D_blockCount := ⟨tb_m 683 (by decide +kernel) rfl, tb_m 684 (by decide +kernel) rfl⟩
def tb_D_instructionCount : List (Nat × Instr × Nat) := [(0, .aload_n 0, 1),
  (1, .getfield 87, 3),
  (4, .getfield 134, 3),
  (7, .ireturn, 1)]
def mi_D_instructionCount : mi_T := ("DataflowLab", ({ cls := "DataflowLab", name := "instructionCount", desc := "()I" } : MethodName), prog_1_method_8_code, 1, (Option.some FieldType.int), [], tb_D_instructionCount)
theorem mo_D_instructionCount : mi_ok mi_D_instructionCount := by
  show ∀ q ∈ tb_D_instructionCount, decode prog_1_method_8_code q.1 = .ok q.2
  decide +kernel
theorem mw_D_instructionCount : mi_w mi_D_instructionCount 0 := ⟨tb_m 689 (by decide +kernel) (by decide +kernel), tb_m 144 (by decide +kernel) rfl, ⟨by decide +kernel, by decide +kernel, by decide +kernel⟩, by decide +kernel⟩
theorem mv_D_instructionCount : mi_wV mi_D_instructionCount := ⟨tb_m 687 (by decide +kernel) rfl, tb_m 688 (by decide +kernel) rfl⟩
def tb_D_requireBlock : List (Nat × Instr × Nat) := [(0, .iload_n 1, 1),
  (1, .ifCond .lt 14, 3),
  (4, .iload_n 1, 1),
  (5, .aload_n 0, 1),
  (6, .getfield 87, 3),
  (9, .getfield 124, 3),
  (12, .if_icmp .lt 14, 3),
  (15, .new 436, 3),
  (18, .dup, 1),
  (19, .ldc_w 438, 3),
  (22, .invokespecial 440, 3),
  (25, .athrow, 1),
  (26, .return_, 1)]
def mi_D_requireBlock : mi_T := ("DataflowLab", ({ cls := "DataflowLab", name := "requireBlock", desc := "(I)V" } : MethodName), prog_1_method_61_code, 2, (Option.none : Option FieldType), [], tb_D_requireBlock)
theorem mo_D_requireBlock : mi_ok mi_D_requireBlock := by
  show ∀ q ∈ tb_D_requireBlock, decode prog_1_method_61_code q.1 = .ok q.2
  decide +kernel
theorem mw_D_requireBlock : mi_w mi_D_requireBlock 1 := ⟨tb_m 1262 (by decide +kernel) (by decide +kernel), tb_m 144 (by decide +kernel) rfl, ⟨by decide +kernel, by decide +kernel, by decide +kernel⟩, by decide +kernel⟩
theorem mv_D_requireBlock : mi_wV mi_D_requireBlock := ⟨tb_m 1261 (by decide +kernel) rfl, tb_m 41 (by decide +kernel) rfl⟩
def tb_P_sizeOf : List (Nat × Instr × Nat) := [(0, .aload_n 0, 1),
  (1, .getfield 15, 3),
  (4, .iload_n 1, 1),
  (5, .iconst 1, 1),
  (6, .iadd, 1),
  (7, .invokestatic 41, 3),
  (10, .aload_n 0, 1),
  (11, .getfield 15, 3),
  (14, .iload_n 1, 1),
  (15, .invokestatic 41, 3),
  (18, .isub, 1),
  (19, .ireturn, 1)]
def mi_P_sizeOf : mi_T := ("DataflowLab$Program", ({ cls := "DataflowLab$Program", name := "sizeOf", desc := "(I)I" } : MethodName), prog_10_method_8_code, 2, (Option.some FieldType.int), [], tb_P_sizeOf)
theorem mo_P_sizeOf : mi_ok mi_P_sizeOf := by
  show ∀ q ∈ tb_P_sizeOf, decode prog_10_method_8_code q.1 = .ok q.2
  decide +kernel
theorem mw_P_sizeOf : mi_w mi_P_sizeOf 1 := ⟨tb_m 1282 (by decide +kernel) (by decide +kernel), tb_m 145 (by decide +kernel) rfl, ⟨by decide +kernel, by decide +kernel, by decide +kernel⟩, by decide +kernel⟩
theorem mv_P_sizeOf : mi_wV mi_P_sizeOf := ⟨tb_m 1280 (by decide +kernel) rfl, tb_m 1281 (by decide +kernel) rfl⟩
def tb_D_instructionsIn : List (Nat × Instr × Nat) := [(0, .aload_n 0, 1),
  (1, .iload_n 1, 1),
  (2, .invokevirtual 137, 3),
  (5, .aload_n 0, 1),
  (6, .getfield 87, 3),
  (9, .iload_n 1, 1),
  (10, .invokevirtual 140, 3),
  (13, .ireturn, 1)]
def mi_D_instructionsIn : mi_T := ("DataflowLab", ({ cls := "DataflowLab", name := "instructionsIn", desc := "(I)I" } : MethodName), prog_1_method_9_code, 2, (Option.some FieldType.int), [], tb_D_instructionsIn)
theorem mo_D_instructionsIn : mi_ok mi_D_instructionsIn := by
  show ∀ q ∈ tb_D_instructionsIn, decode prog_1_method_9_code q.1 = .ok q.2
  decide +kernel
theorem mw_D_instructionsIn : mi_w mi_D_instructionsIn 1 := ⟨tb_m 1258 (by decide +kernel) (by decide +kernel), tb_m 144 (by decide +kernel) rfl, ⟨by decide +kernel, by decide +kernel, by decide +kernel⟩, by decide +kernel⟩
theorem mv_D_instructionsIn : mi_wV mi_D_instructionsIn := ⟨tb_m 1256 (by decide +kernel) rfl, tb_m 1257 (by decide +kernel) rfl⟩
def tb_D_requireInstruction : List (Nat × Instr × Nat) := [(0, .iload_n 1, 1),
  (1, .ifCond .lt 14, 3),
  (4, .iload_n 1, 1),
  (5, .aload_n 0, 1),
  (6, .getfield 87, 3),
  (9, .getfield 134, 3),
  (12, .if_icmp .lt 14, 3),
  (15, .new 436, 3),
  (18, .dup, 1),
  (19, .ldc_w 441, 3),
  (22, .invokespecial 440, 3),
  (25, .athrow, 1),
  (26, .return_, 1)]
def mi_D_requireInstruction : mi_T := ("DataflowLab", ({ cls := "DataflowLab", name := "requireInstruction", desc := "(I)V" } : MethodName), prog_1_method_62_code, 2, (Option.none : Option FieldType), [], tb_D_requireInstruction)
theorem mo_D_requireInstruction : mi_ok mi_D_requireInstruction := by
  show ∀ q ∈ tb_D_requireInstruction, decode prog_1_method_62_code q.1 = .ok q.2
  decide +kernel
theorem mw_D_requireInstruction : mi_w mi_D_requireInstruction 1 := ⟨tb_m 1293 (by decide +kernel) (by decide +kernel), tb_m 144 (by decide +kernel) rfl, ⟨by decide +kernel, by decide +kernel, by decide +kernel⟩, by decide +kernel⟩
theorem mv_D_requireInstruction : mi_wV mi_D_requireInstruction := ⟨tb_m 1292 (by decide +kernel) rfl, tb_m 42 (by decide +kernel) rfl⟩
def tb_P_blockAt : List (Nat × Instr × Nat) := [(0, .iload_n 1, 1),
  (1, .bipush 40, 2),
  (3, .if_icmp .lt 8, 3),
  (6, .iload_n 1, 1),
  (7, .bipush 40, 2),
  (9, .isub, 1),
  (10, .ireturn, 1),
  (11, .iconst 0, 1),
  (12, .istore_n 2, 1),
  (13, .iload_n 2, 1),
  (14, .aload_n 0, 1),
  (15, .getfield 30, 3),
  (18, .if_icmp .ge 23, 3),
  (21, .aload_n 0, 1),
  (22, .getfield 15, 3),
  (25, .iload_n 2, 1),
  (26, .iconst 1, 1),
  (27, .iadd, 1),
  (28, .invokestatic 41, 3),
  (31, .iload_n 1, 1),
  (32, .if_icmp .gt 9, 3),
  (35, .iinc 2 1, 3),
  (38, .goto (-25), 3),
  (41, .iload_n 2, 1),
  (42, .ireturn, 1)]
def mi_P_blockAt : mi_T := ("DataflowLab$Program", ({ cls := "DataflowLab$Program", name := "blockAt", desc := "(I)I" } : MethodName), prog_10_method_25_code, 3, (Option.some FieldType.int), [], tb_P_blockAt)
theorem mo_P_blockAt : mi_ok mi_P_blockAt := by
  show ∀ q ∈ tb_P_blockAt, decode prog_10_method_25_code q.1 = .ok q.2
  decide +kernel
theorem mw_P_blockAt : mi_w mi_P_blockAt 1 := ⟨tb_m 730 (by decide +kernel) (by decide +kernel), tb_m 145 (by decide +kernel) rfl, ⟨by decide +kernel, by decide +kernel, by decide +kernel⟩, by decide +kernel⟩
theorem mv_P_blockAt : mi_wV mi_P_blockAt := ⟨tb_m 728 (by decide +kernel) rfl, tb_m 729 (by decide +kernel) rfl⟩
def tb_D_blockOf : List (Nat × Instr × Nat) := [(0, .aload_n 0, 1),
  (1, .iload_n 1, 1),
  (2, .invokevirtual 144, 3),
  (5, .aload_n 0, 1),
  (6, .getfield 87, 3),
  (9, .iload_n 1, 1),
  (10, .invokevirtual 147, 3),
  (13, .ireturn, 1)]
def mi_D_blockOf : mi_T := ("DataflowLab", ({ cls := "DataflowLab", name := "blockOf", desc := "(I)I" } : MethodName), prog_1_method_10_code, 2, (Option.some FieldType.int), [], tb_D_blockOf)
theorem mo_D_blockOf : mi_ok mi_D_blockOf := by
  show ∀ q ∈ tb_D_blockOf, decode prog_1_method_10_code q.1 = .ok q.2
  decide +kernel
theorem mw_D_blockOf : mi_w mi_D_blockOf 1 := ⟨tb_m 1289 (by decide +kernel) (by decide +kernel), tb_m 144 (by decide +kernel) rfl, ⟨by decide +kernel, by decide +kernel, by decide +kernel⟩, by decide +kernel⟩
theorem mv_D_blockOf : mi_wV mi_D_blockOf := ⟨tb_m 1287 (by decide +kernel) rfl, tb_m 1288 (by decide +kernel) rfl⟩
def tb_O_kind : List (Nat × Instr × Nat) := [(0, .iload_n 0, 1),
  (1, .iconst 3, 1),
  (2, .iand, 1),
  (3, .ireturn, 1)]
def mi_O_kind : mi_T := ("DataflowLab$Code", ({ cls := "DataflowLab$Code", name := "kind", desc := "(I)I" } : MethodName), prog_3_method_5_code, 1, (Option.some FieldType.int), [], tb_O_kind)
theorem mo_O_kind : mi_ok mi_O_kind := by
  show ∀ q ∈ tb_O_kind, decode prog_3_method_5_code q.1 = .ok q.2
  decide +kernel
theorem mw_O_kind : mi_w mi_O_kind 1 := ⟨tb_m 743 (by decide +kernel) (by decide +kernel), tb_m 160 (by decide +kernel) rfl, ⟨by decide +kernel, by decide +kernel, by decide +kernel⟩, by decide +kernel⟩
theorem mv_O_kind : Cond.static (mi_y mi_O_kind) ∈ tb_G := tb_m 742 (by decide +kernel) rfl
def tb_P_kindAt : List (Nat × Instr × Nat) := [(0, .iload_n 1, 1),
  (1, .bipush 40, 2),
  (3, .if_icmp .ge 17, 3),
  (6, .aload_n 0, 1),
  (7, .getfield 9, 3),
  (10, .iload_n 1, 1),
  (11, .invokestatic 41, 3),
  (14, .invokestatic 60, 3),
  (17, .goto 4, 3),
  (20, .iconst (-1), 1),
  (21, .ireturn, 1)]
def mi_P_kindAt : mi_T := ("DataflowLab$Program", ({ cls := "DataflowLab$Program", name := "kindAt", desc := "(I)I" } : MethodName), prog_10_method_26_code, 2, (Option.some FieldType.int), [], tb_P_kindAt)
theorem mo_P_kindAt : mi_ok mi_P_kindAt := by
  show ∀ q ∈ tb_P_kindAt, decode prog_10_method_26_code q.1 = .ok q.2
  decide +kernel
theorem mw_P_kindAt : mi_w mi_P_kindAt 1 := ⟨tb_m 740 (by decide +kernel) (by decide +kernel), tb_m 145 (by decide +kernel) rfl, ⟨by decide +kernel, by decide +kernel, by decide +kernel⟩, by decide +kernel⟩
theorem mv_P_kindAt : mi_wV mi_P_kindAt := ⟨tb_m 738 (by decide +kernel) rfl, tb_m 739 (by decide +kernel) rfl⟩
def tb_D_kindOf : List (Nat × Instr × Nat) := [(0, .aload_n 0, 1),
  (1, .iload_n 1, 1),
  (2, .invokevirtual 144, 3),
  (5, .aload_n 0, 1),
  (6, .getfield 87, 3),
  (9, .iload_n 1, 1),
  (10, .invokevirtual 150, 3),
  (13, .ireturn, 1)]
def mi_D_kindOf : mi_T := ("DataflowLab", ({ cls := "DataflowLab", name := "kindOf", desc := "(I)I" } : MethodName), prog_1_method_11_code, 2, (Option.some FieldType.int), [], tb_D_kindOf)
theorem mo_D_kindOf : mi_ok mi_D_kindOf := by
  show ∀ q ∈ tb_D_kindOf, decode prog_1_method_11_code q.1 = .ok q.2
  decide +kernel
theorem mw_D_kindOf : mi_w mi_D_kindOf 1 := ⟨tb_m 1302 (by decide +kernel) (by decide +kernel), tb_m 144 (by decide +kernel) rfl, ⟨by decide +kernel, by decide +kernel, by decide +kernel⟩, by decide +kernel⟩
theorem mv_D_kindOf : mi_wV mi_D_kindOf := ⟨tb_m 1300 (by decide +kernel) rfl, tb_m 1301 (by decide +kernel) rfl⟩
def tb_D_successor : List (Nat × Instr × Nat) := [(0, .aload_n 0, 1),
  (1, .iload_n 1, 1),
  (2, .invokevirtual 137, 3),
  (5, .iload_n 2, 1),
  (6, .ifCond .lt 15, 3),
  (9, .iload_n 2, 1),
  (10, .aload_n 0, 1),
  (11, .getfield 87, 3),
  (14, .iload_n 1, 1),
  (15, .invokevirtual 153, 3),
  (18, .if_icmp .lt 13, 3),
  (21, .new 156, 3),
  (24, .dup, 1),
  (25, .ldc 158, 2),
  (27, .invokespecial 160, 3),
  (30, .athrow, 1),
  (31, .aload_n 0, 1),
  (32, .getfield 87, 3),
  (35, .iload_n 1, 1),
  (36, .iload_n 2, 1),
  (37, .invokevirtual 161, 3),
  (40, .ireturn, 1)]
def mi_D_successor : mi_T := ("DataflowLab", ({ cls := "DataflowLab", name := "successor", desc := "(II)I" } : MethodName), prog_1_method_12_code, 3, (Option.some FieldType.int), [], tb_D_successor)
theorem mo_D_successor : mi_ok mi_D_successor := by
  show ∀ q ∈ tb_D_successor, decode prog_1_method_12_code q.1 = .ok q.2
  decide +kernel
theorem mw_D_successor : mi_w mi_D_successor 2 := ⟨tb_m 1310 (by decide +kernel) (by decide +kernel), tb_m 144 (by decide +kernel) rfl, ⟨by decide +kernel, by decide +kernel, by decide +kernel⟩, by decide +kernel⟩
theorem mv_D_successor : mi_wV mi_D_successor := ⟨tb_m 1308 (by decide +kernel) rfl, tb_m 1309 (by decide +kernel) rfl⟩
def tb_D_fill_a : List (Nat × Instr × Nat) := [(0, .iconst 0, 1),
  (1, .istore_n 2, 1),
  (2, .iload_n 2, 1),
  (3, .aload_n 0, 1),
  (4, .arraylength, 1),
  (5, .if_icmp .ge 13, 3),
  (8, .aload_n 0, 1),
  (9, .iload_n 2, 1),
  (10, .iload_n 1, 1),
  (11, .iastore, 1),
  (12, .iinc 2 1, 3),
  (15, .goto (-13), 3),
  (18, .return_, 1)]
def mi_D_fill_a : mi_T := ("DataflowLab", ({ cls := "DataflowLab", name := "fill", desc := "([II)V" } : MethodName), prog_1_method_84_code, 3, (Option.none : Option FieldType), [], tb_D_fill_a)
theorem mo_D_fill_a : mi_ok mi_D_fill_a := by
  show ∀ q ∈ tb_D_fill_a, decode prog_1_method_84_code q.1 = .ok q.2
  decide +kernel
theorem mw_D_fill_a : mi_w mi_D_fill_a 2 := ⟨tb_m 704 (by decide +kernel) (by decide +kernel), tb_m 144 (by decide +kernel) rfl, ⟨by decide +kernel, by decide +kernel, by decide +kernel⟩, by decide +kernel⟩
theorem mv_D_fill_a : Cond.static (mi_y mi_D_fill_a) ∈ tb_G := tb_m 703 (by decide +kernel) rfl
def tb_G_readEdges : List (Nat × Instr × Nat) := [(0, .aload_n 0, 1),
  (1, .getfield 9, 3),
  (4, .iconst 0, 1),
  (5, .invokestatic 69, 3),
  (8, .aload_n 0, 1),
  (9, .getfield 15, 3),
  (12, .iconst 0, 1),
  (13, .invokestatic 69, 3),
  (16, .iconst 0, 1),
  (17, .istore_n 2, 1),
  (18, .iload_n 2, 1),
  (19, .aload_n 1, 1),
  (20, .getfield 73, 3),
  (23, .if_icmp .ge 77, 3),
  (26, .iconst 0, 1),
  (27, .istore_n 3, 1),
  (28, .iload_n 3, 1),
  (29, .aload_n 1, 1),
  (30, .iload_n 2, 1),
  (31, .invokevirtual 78, 3),
  (34, .if_icmp .ge 60, 3),
  (37, .aload_n 1, 1),
  (38, .iload_n 2, 1),
  (39, .iload_n 3, 1),
  (40, .invokevirtual 81, 3),
  (43, .istore 4, 2),
  (45, .aload_n 0, 1),
  (46, .getfield 9, 3),
  (49, .iload_n 2, 1),
  (50, .aload_n 0, 1),
  (51, .getfield 9, 3),
  (54, .iload_n 2, 1),
  (55, .invokestatic 62, 3),
  (58, .iconst 1, 1),
  (59, .iload 4, 2),
  (61, .ishl, 1),
  (62, .ior, 1),
  (63, .invokestatic 41, 3),
  (66, .aload_n 0, 1),
  (67, .getfield 15, 3),
  (70, .iload 4, 2),
  (72, .aload_n 0, 1),
  (73, .getfield 15, 3),
  (76, .iload 4, 2),
  (78, .invokestatic 62, 3),
  (81, .iconst 1, 1),
  (82, .iload_n 2, 1),
  (83, .ishl, 1),
  (84, .ior, 1),
  (85, .invokestatic 41, 3),
  (88, .iinc 3 1, 3),
  (91, .goto (-63), 3),
  (94, .iinc 2 1, 3),
  (97, .goto (-79), 3),
  (100, .return_, 1)]
def mi_G_readEdges : mi_T := ("DataflowLab$Graph", ({ cls := "DataflowLab$Graph", name := "readEdges", desc := "(LDataflowLab$Program;)V" } : MethodName), prog_5_method_12_code, 5, (Option.none : Option FieldType), [], tb_G_readEdges)
theorem mo_G_readEdges : mi_ok mi_G_readEdges := by
  show ∀ q ∈ tb_G_readEdges, decode prog_5_method_12_code q.1 = .ok q.2
  decide +kernel
theorem mw_G_readEdges : mi_w mi_G_readEdges 1 := ⟨tb_m 808 (by decide +kernel) (by decide +kernel), tb_m 149 (by decide +kernel) rfl, ⟨by decide +kernel, by decide +kernel, by decide +kernel⟩, by decide +kernel⟩
theorem mv_G_readEdges : mi_wV mi_G_readEdges := ⟨tb_m 807 (by decide +kernel) rfl, tb_m 18 (by decide +kernel) rfl⟩
def tb_D_hasBit : List (Nat × Instr × Nat) := [(0, .lload_n 0, 1),
  (1, .iload_n 2, 1),
  (2, .lushr, 1),
  (3, .lconst 1, 1),
  (4, .land, 1),
  (5, .lconst 0, 1),
  (6, .lcmp, 1),
  (7, .ifCond .eq 7, 3),
  (10, .iconst 1, 1),
  (11, .goto 4, 3),
  (14, .iconst 0, 1),
  (15, .ireturn, 1)]
def mi_D_hasBit : mi_T := ("DataflowLab", ({ cls := "DataflowLab", name := "hasBit", desc := "(JI)Z" } : MethodName), prog_1_method_87_code, 3, (Option.some FieldType.boolean), [], tb_D_hasBit)
theorem mo_D_hasBit : mi_ok mi_D_hasBit := by
  show ∀ q ∈ tb_D_hasBit, decode prog_1_method_87_code q.1 = .ok q.2
  decide +kernel
theorem mw_D_hasBit : mi_w mi_D_hasBit 2 := ⟨tb_m 771 (by decide +kernel) (by decide +kernel), tb_m 144 (by decide +kernel) rfl, ⟨by decide +kernel, by decide +kernel, by decide +kernel⟩, by decide +kernel⟩
theorem mv_D_hasBit : Cond.static (mi_y mi_D_hasBit) ∈ tb_G := tb_m 770 (by decide +kernel) rfl
def tb_G_union : List (Nat × Instr × Nat) := [(0, .iconst 0, 1),
  (1, .istore_n 2, 1),
  (2, .iconst 0, 1),
  (3, .istore_n 3, 1),
  (4, .iload_n 3, 1),
  (5, .bipush 12, 2),
  (7, .if_icmp .ge 30, 3),
  (10, .iload_n 2, 1),
  (11, .iload_n 1, 1),
  (12, .i2l, 1),
  (13, .iload_n 3, 1),
  (14, .invokestatic 53, 3),
  (17, .ifCond .eq 11, 3),
  (20, .aload_n 0, 1),
  (21, .iload_n 3, 1),
  (22, .invokestatic 62, 3),
  (25, .goto 4, 3),
  (28, .iconst 0, 1),
  (29, .ior, 1),
  (30, .istore_n 2, 1),
  (31, .iinc 3 1, 3),
  (34, .goto (-30), 3),
  (37, .iload_n 2, 1),
  (38, .ireturn, 1)]
def mi_G_union : mi_T := ("DataflowLab$Graph", ({ cls := "DataflowLab$Graph", name := "union", desc := "([II)I" } : MethodName), prog_5_method_18_code, 4, (Option.some FieldType.int), [], tb_G_union)
theorem mo_G_union : mi_ok mi_G_union := by
  show ∀ q ∈ tb_G_union, decode prog_5_method_18_code q.1 = .ok q.2
  decide +kernel
theorem mw_G_union : mi_w mi_G_union 2 := ⟨tb_m 820 (by decide +kernel) (by decide +kernel), tb_m 149 (by decide +kernel) rfl, ⟨by decide +kernel, by decide +kernel, by decide +kernel⟩, by decide +kernel⟩
theorem mv_G_union : Cond.static (mi_y mi_G_union) ∈ tb_G := tb_m 819 (by decide +kernel) rfl
def tb_G_measureDistances : List (Nat × Instr × Nat) := [(0, .aload_n 0, 1),
  (1, .getfield 18, 3),
  (4, .iconst (-1), 1),
  (5, .invokestatic 69, 3),
  (8, .aload_n 0, 1),
  (9, .getfield 18, 3),
  (12, .iconst 0, 1),
  (13, .iconst 0, 1),
  (14, .invokestatic 41, 3),
  (17, .aload_n 0, 1),
  (18, .iconst 1, 1),
  (19, .putfield 49, 3),
  (22, .iconst 1, 1),
  (23, .istore_n 1, 1),
  (24, .iconst 1, 1),
  (25, .istore_n 2, 1),
  (26, .iload_n 2, 1),
  (27, .bipush 12, 2),
  (29, .if_icmp .ge 67, 3),
  (32, .aload_n 0, 1),
  (33, .getfield 9, 3),
  (36, .iload_n 1, 1),
  (37, .invokestatic 85, 3),
  (40, .aload_n 0, 1),
  (41, .getfield 49, 3),
  (44, .iconst (-1), 1),
  (45, .ixor, 1),
  (46, .iand, 1),
  (47, .istore_n 1, 1),
  (48, .aload_n 0, 1),
  (49, .dup, 1),
  (50, .getfield 49, 3),
  (53, .iload_n 1, 1),
  (54, .ior, 1),
  (55, .putfield 49, 3),
  (58, .iconst 0, 1),
  (59, .istore_n 3, 1),
  (60, .iload_n 3, 1),
  (61, .bipush 12, 2),
  (63, .if_icmp .ge 27, 3),
  (66, .iload_n 1, 1),
  (67, .i2l, 1),
  (68, .iload_n 3, 1),
  (69, .invokestatic 53, 3),
  (72, .ifCond .eq 12, 3),
  (75, .aload_n 0, 1),
  (76, .getfield 18, 3),
  (79, .iload_n 3, 1),
  (80, .iload_n 2, 1),
  (81, .invokestatic 41, 3),
  (84, .iinc 3 1, 3),
  (87, .goto (-27), 3),
  (90, .iinc 2 1, 3),
  (93, .goto (-67), 3),
  (96, .return_, 1)]
def mi_G_measureDistances : mi_T := ("DataflowLab$Graph", ({ cls := "DataflowLab$Graph", name := "measureDistances", desc := "()V" } : MethodName), prog_5_method_13_code, 4, (Option.none : Option FieldType), [], tb_G_measureDistances)
theorem mo_G_measureDistances : mi_ok mi_G_measureDistances := by
  show ∀ q ∈ tb_G_measureDistances, decode prog_5_method_13_code q.1 = .ok q.2
  decide +kernel
theorem mw_G_measureDistances : mi_w mi_G_measureDistances 0 := ⟨tb_m 817 (by decide +kernel) (by decide +kernel), tb_m 149 (by decide +kernel) rfl, ⟨by decide +kernel, by decide +kernel, by decide +kernel⟩, by decide +kernel⟩
theorem mv_G_measureDistances : mi_wV mi_G_measureDistances := ⟨tb_m 816 (by decide +kernel) rfl, tb_m 19 (by decide +kernel) rfl⟩
def tb_G_isReached : List (Nat × Instr × Nat) := [(0, .aload_n 0, 1),
  (1, .getfield 49, 3),
  (4, .i2l, 1),
  (5, .iload_n 1, 1),
  (6, .invokestatic 53, 3),
  (9, .ireturn, 1)]
def mi_G_isReached : mi_T := ("DataflowLab$Graph", ({ cls := "DataflowLab$Graph", name := "isReached", desc := "(I)Z" } : MethodName), prog_5_method_3_code, 2, (Option.some FieldType.boolean), [], tb_G_isReached)
theorem mo_G_isReached : mi_ok mi_G_isReached := by
  show ∀ q ∈ tb_G_isReached, decode prog_5_method_3_code q.1 = .ok q.2
  decide +kernel
theorem mw_G_isReached : mi_w mi_G_isReached 1 := ⟨tb_m 829 (by decide +kernel) (by decide +kernel), tb_m 149 (by decide +kernel) rfl, ⟨by decide +kernel, by decide +kernel, by decide +kernel⟩, by decide +kernel⟩
theorem mv_G_isReached : mi_wV mi_G_isReached := ⟨tb_m 827 (by decide +kernel) rfl, tb_m 828 (by decide +kernel) rfl⟩
def tb_G_narrowDominators : List (Nat × Instr × Nat) := [(0, .aload_n 0, 1),
  (1, .getfield 21, 3),
  (4, .iload_n 1, 1),
  (5, .invokestatic 62, 3),
  (8, .istore_n 2, 1),
  (9, .iload_n 2, 1),
  (10, .istore_n 3, 1),
  (11, .aload_n 0, 1),
  (12, .getfield 15, 3),
  (15, .iload_n 1, 1),
  (16, .invokestatic 62, 3),
  (19, .aload_n 0, 1),
  (20, .getfield 49, 3),
  (23, .iand, 1),
  (24, .istore 4, 2),
  (26, .iconst 0, 1),
  (27, .istore 5, 2),
  (29, .iload 5, 2),
  (31, .bipush 12, 2),
  (33, .if_icmp .ge 36, 3),
  (36, .iload 4, 2),
  (38, .i2l, 1),
  (39, .iload 5, 2),
  (41, .invokestatic 53, 3),
  (44, .ifCond .eq 19, 3),
  (47, .iload_n 3, 1),
  (48, .aload_n 0, 1),
  (49, .getfield 21, 3),
  (52, .iload 5, 2),
  (54, .invokestatic 62, 3),
  (57, .iconst 1, 1),
  (58, .iload_n 1, 1),
  (59, .ishl, 1),
  (60, .ior, 1),
  (61, .iand, 1),
  (62, .istore_n 3, 1),
  (63, .iinc 5 1, 3),
  (66, .goto (-37), 3),
  (69, .aload_n 0, 1),
  (70, .getfield 21, 3),
  (73, .iload_n 1, 1),
  (74, .iload_n 3, 1),
  (75, .invokestatic 41, 3),
  (78, .iload_n 3, 1),
  (79, .iload_n 2, 1),
  (80, .if_icmp .eq 7, 3),
  (83, .iconst 1, 1),
  (84, .goto 4, 3),
  (87, .iconst 0, 1),
  (88, .ireturn, 1)]
def mi_G_narrowDominators : mi_T := ("DataflowLab$Graph", ({ cls := "DataflowLab$Graph", name := "narrowDominators", desc := "(I)Z" } : MethodName), prog_5_method_15_code, 6, (Option.some FieldType.boolean), [], tb_G_narrowDominators)
theorem mo_G_narrowDominators : mi_ok mi_G_narrowDominators := by
  show ∀ q ∈ tb_G_narrowDominators, decode prog_5_method_15_code q.1 = .ok q.2
  decide +kernel
theorem mw_G_narrowDominators : mi_w mi_G_narrowDominators 1 := ⟨tb_m 834 (by decide +kernel) (by decide +kernel), tb_m 149 (by decide +kernel) rfl, ⟨by decide +kernel, by decide +kernel, by decide +kernel⟩, by decide +kernel⟩
theorem mv_G_narrowDominators : mi_wV mi_G_narrowDominators := ⟨tb_m 833 (by decide +kernel) rfl, tb_m 21 (by decide +kernel) rfl⟩
def tb_G_findDominators : List (Nat × Instr × Nat) := [(0, .iconst 0, 1),
  (1, .istore_n 1, 1),
  (2, .iload_n 1, 1),
  (3, .bipush 12, 2),
  (5, .if_icmp .ge 33, 3),
  (8, .aload_n 0, 1),
  (9, .getfield 21, 3),
  (12, .iload_n 1, 1),
  (13, .aload_n 0, 1),
  (14, .iload_n 1, 1),
  (15, .invokevirtual 88, 3),
  (18, .ifCond .eq 10, 3),
  (21, .aload_n 0, 1),
  (22, .getfield 49, 3),
  (25, .goto 4, 3),
  (28, .iconst 0, 1),
  (29, .invokestatic 41, 3),
  (32, .iinc 1 1, 3),
  (35, .goto (-33), 3),
  (38, .aload_n 0, 1),
  (39, .getfield 21, 3),
  (42, .iconst 0, 1),
  (43, .iconst 1, 1),
  (44, .invokestatic 41, 3),
  (47, .iconst 1, 1),
  (48, .istore_n 1, 1),
  (49, .iconst 0, 1),
  (50, .istore_n 2, 1),
  (51, .iload_n 1, 1),
  (52, .ifCond .eq 49, 3),
  (55, .iload_n 2, 1),
  (56, .ldc 92, 2),
  (58, .if_icmp .ge 43, 3),
  (61, .iconst 0, 1),
  (62, .istore_n 1, 1),
  (63, .iconst 0, 1),
  (64, .istore_n 3, 1),
  (65, .iload_n 3, 1),
  (66, .bipush 12, 2),
  (68, .if_icmp .ge 27, 3),
  (71, .aload_n 0, 1),
  (72, .iload_n 3, 1),
  (73, .invokevirtual 88, 3),
  (76, .ifCond .eq 13, 3),
  (79, .aload_n 0, 1),
  (80, .iload_n 3, 1),
  (81, .invokevirtual 93, 3),
  (84, .ifCond .eq 5, 3),
  (87, .iconst 1, 1),
  (88, .istore_n 1, 1),
  (89, .iinc 3 1, 3),
  (92, .goto (-27), 3),
  (95, .iinc 2 1, 3),
  (98, .goto (-47), 3),
  (101, .return_, 1)]
def mi_G_findDominators : mi_T := ("DataflowLab$Graph", ({ cls := "DataflowLab$Graph", name := "findDominators", desc := "()V" } : MethodName), prog_5_method_14_code, 4, (Option.none : Option FieldType), [], tb_G_findDominators)
theorem mo_G_findDominators : mi_ok mi_G_findDominators := by
  show ∀ q ∈ tb_G_findDominators, decode prog_5_method_14_code q.1 = .ok q.2
  decide +kernel
theorem mw_G_findDominators : mi_w mi_G_findDominators 0 := ⟨tb_m 825 (by decide +kernel) (by decide +kernel), tb_m 149 (by decide +kernel) rfl, ⟨by decide +kernel, by decide +kernel, by decide +kernel⟩, by decide +kernel⟩
theorem mv_G_findDominators : mi_wV mi_G_findDominators := ⟨tb_m 824 (by decide +kernel) rfl, tb_m 20 (by decide +kernel) rfl⟩
def tb_G_origins : List (Nat × Instr × Nat) := [(0, .iconst 0, 1),
  (1, .istore_n 2, 1),
  (2, .iconst 0, 1),
  (3, .istore_n 3, 1),
  (4, .iload_n 3, 1),
  (5, .bipush 12, 2),
  (7, .if_icmp .ge 47, 3),
  (10, .aload_n 0, 1),
  (11, .getfield 15, 3),
  (14, .iload_n 1, 1),
  (15, .invokestatic 62, 3),
  (18, .i2l, 1),
  (19, .iload_n 3, 1),
  (20, .invokestatic 53, 3),
  (23, .ifCond .eq 25, 3),
  (26, .aload_n 0, 1),
  (27, .getfield 21, 3),
  (30, .iload_n 3, 1),
  (31, .invokestatic 62, 3),
  (34, .i2l, 1),
  (35, .iload_n 1, 1),
  (36, .invokestatic 53, 3),
  (39, .ifCond .eq 9, 3),
  (42, .iload_n 2, 1),
  (43, .iconst 1, 1),
  (44, .iload_n 3, 1),
  (45, .ishl, 1),
  (46, .ior, 1),
  (47, .istore_n 2, 1),
  (48, .iinc 3 1, 3),
  (51, .goto (-47), 3),
  (54, .iload_n 2, 1),
  (55, .ireturn, 1)]
def mi_G_origins : mi_T := ("DataflowLab$Graph", ({ cls := "DataflowLab$Graph", name := "origins", desc := "(I)I" } : MethodName), prog_5_method_16_code, 4, (Option.some FieldType.int), [], tb_G_origins)
theorem mo_G_origins : mi_ok mi_G_origins := by
  show ∀ q ∈ tb_G_origins, decode prog_5_method_16_code q.1 = .ok q.2
  decide +kernel
theorem mw_G_origins : mi_w mi_G_origins 1 := ⟨tb_m 842 (by decide +kernel) (by decide +kernel), tb_m 149 (by decide +kernel) rfl, ⟨by decide +kernel, by decide +kernel, by decide +kernel⟩, by decide +kernel⟩
theorem mv_G_origins : mi_wV mi_G_origins := ⟨tb_m 841 (by decide +kernel) rfl, tb_m 23 (by decide +kernel) rfl⟩
def tb_G_findBody : List (Nat × Instr × Nat) := [(0, .aload_n 0, 1),
  (1, .iload_n 1, 1),
  (2, .invokevirtual 66, 3),
  (5, .istore_n 2, 1),
  (6, .iload_n 2, 1),
  (7, .ifCond .ne 5, 3),
  (10, .iconst 0, 1),
  (11, .ireturn, 1),
  (12, .iconst 1, 1),
  (13, .iload_n 1, 1),
  (14, .ishl, 1),
  (15, .istore_n 3, 1),
  (16, .iload_n 2, 1),
  (17, .iload_n 3, 1),
  (18, .ior, 1),
  (19, .istore 4, 2),
  (21, .iconst 0, 1),
  (22, .istore 5, 2),
  (24, .iload 5, 2),
  (26, .bipush 12, 2),
  (28, .if_icmp .ge 32, 3),
  (31, .iload 4, 2),
  (33, .aload_n 0, 1),
  (34, .getfield 15, 3),
  (37, .iload 4, 2),
  (39, .iload_n 3, 1),
  (40, .iconst (-1), 1),
  (41, .ixor, 1),
  (42, .iand, 1),
  (43, .invokestatic 85, 3),
  (46, .aload_n 0, 1),
  (47, .getfield 49, 3),
  (50, .iand, 1),
  (51, .ior, 1),
  (52, .istore 4, 2),
  (54, .iinc 5 1, 3),
  (57, .goto (-33), 3),
  (60, .iload 4, 2),
  (62, .ireturn, 1)]
def mi_G_findBody : mi_T := ("DataflowLab$Graph", ({ cls := "DataflowLab$Graph", name := "findBody", desc := "(I)I" } : MethodName), prog_5_method_17_code, 6, (Option.some FieldType.int), [], tb_G_findBody)
theorem mo_G_findBody : mi_ok mi_G_findBody := by
  show ∀ q ∈ tb_G_findBody, decode prog_5_method_17_code q.1 = .ok q.2
  decide +kernel
theorem mw_G_findBody : mi_w mi_G_findBody 1 := ⟨tb_m 838 (by decide +kernel) (by decide +kernel), tb_m 149 (by decide +kernel) rfl, ⟨by decide +kernel, by decide +kernel, by decide +kernel⟩, by decide +kernel⟩
theorem mv_G_findBody : mi_wV mi_G_findBody := ⟨tb_m 837 (by decide +kernel) rfl, tb_m 22 (by decide +kernel) rfl⟩
def tb_G_analyse : List (Nat × Instr × Nat) := [(0, .aload_n 0, 1),
  (1, .aload_n 1, 1),
  (2, .invokevirtual 27, 3),
  (5, .aload_n 0, 1),
  (6, .invokevirtual 31, 3),
  (9, .aload_n 0, 1),
  (10, .invokevirtual 34, 3),
  (13, .iconst 0, 1),
  (14, .istore_n 2, 1),
  (15, .iload_n 2, 1),
  (16, .bipush 12, 2),
  (18, .if_icmp .ge 22, 3),
  (21, .aload_n 0, 1),
  (22, .getfield 24, 3),
  (25, .iload_n 2, 1),
  (26, .aload_n 0, 1),
  (27, .iload_n 2, 1),
  (28, .invokevirtual 37, 3),
  (31, .invokestatic 41, 3),
  (34, .iinc 2 1, 3),
  (37, .goto (-22), 3),
  (40, .aload_n 0, 1),
  (41, .iconst 1, 1),
  (42, .putfield 45, 3),
  (45, .return_, 1)]
def mi_G_analyse : mi_T := ("DataflowLab$Graph", ({ cls := "DataflowLab$Graph", name := "analyse", desc := "(LDataflowLab$Program;)V" } : MethodName), prog_5_method_2_code, 3, (Option.none : Option FieldType), [], tb_G_analyse)
theorem mo_G_analyse : mi_ok mi_G_analyse := by
  show ∀ q ∈ tb_G_analyse, decode prog_5_method_2_code q.1 = .ok q.2
  decide +kernel
theorem mw_G_analyse : mi_w mi_G_analyse 1 := ⟨tb_m 804 (by decide +kernel) (by decide +kernel), tb_m 149 (by decide +kernel) rfl, ⟨by decide +kernel, by decide +kernel, by decide +kernel⟩, by decide +kernel⟩
theorem mv_G_analyse : mi_wV mi_G_analyse := ⟨tb_m 802 (by decide +kernel) rfl, tb_m 803 (by decide +kernel) rfl⟩
def tb_D_graph : List (Nat × Instr × Nat) := [(0, .aload_n 0, 1),
  (1, .getfield 44, 3),
  (4, .getfield 471, 3),
  (7, .ifCond .ne 14, 3),
  (10, .aload_n 0, 1),
  (11, .getfield 44, 3),
  (14, .aload_n 0, 1),
  (15, .getfield 87, 3),
  (18, .invokevirtual 478, 3),
  (21, .aload_n 0, 1),
  (22, .getfield 44, 3),
  (25, .areturn, 1)]
def mi_D_graph : mi_T := ("DataflowLab", ({ cls := "DataflowLab", name := "graph", desc := "()LDataflowLab$Graph;" } : MethodName), prog_1_method_75_code, 1, (Option.some (FieldType.object "DataflowLab$Graph")), [], tb_D_graph)
theorem mo_D_graph : mi_ok mi_D_graph := by
  show ∀ q ∈ tb_D_graph, decode prog_1_method_75_code q.1 = .ok q.2
  decide +kernel
theorem mw_D_graph : mi_w mi_D_graph 0 := ⟨tb_m 800 (by decide +kernel) (by decide +kernel), tb_m 144 (by decide +kernel) rfl, ⟨by decide +kernel, by decide +kernel, by decide +kernel⟩, by decide +kernel⟩
theorem mv_D_graph : mi_wV mi_D_graph := ⟨tb_m 799 (by decide +kernel) rfl, tb_m 17 (by decide +kernel) rfl⟩
def tb_G_predecessorSet : List (Nat × Instr × Nat) := [(0, .aload_n 0, 1),
  (1, .getfield 15, 3),
  (4, .iload_n 1, 1),
  (5, .invokestatic 62, 3),
  (8, .ireturn, 1)]
def mi_G_predecessorSet : mi_T := ("DataflowLab$Graph", ({ cls := "DataflowLab$Graph", name := "predecessorSet", desc := "(I)I" } : MethodName), prog_5_method_5_code, 2, (Option.some FieldType.int), [], tb_G_predecessorSet)
theorem mo_G_predecessorSet : mi_ok mi_G_predecessorSet := by
  show ∀ q ∈ tb_G_predecessorSet, decode prog_5_method_5_code q.1 = .ok q.2
  decide +kernel
theorem mw_G_predecessorSet : mi_w mi_G_predecessorSet 1 := ⟨tb_m 1339 (by decide +kernel) (by decide +kernel), tb_m 149 (by decide +kernel) rfl, ⟨by decide +kernel, by decide +kernel, by decide +kernel⟩, by decide +kernel⟩
theorem mv_G_predecessorSet : mi_wV mi_G_predecessorSet := ⟨tb_m 1337 (by decide +kernel) rfl, tb_m 1338 (by decide +kernel) rfl⟩
def tb_JI_bitCount : List (Nat × Instr × Nat) := [(0, .iload_n 0, 1),
  (1, .iload_n 0, 1),
  (2, .iconst 1, 1),
  (3, .iushr, 1),
  (4, .ldc_w 265, 3),
  (7, .iand, 1),
  (8, .isub, 1),
  (9, .istore_n 0, 1),
  (10, .iload_n 0, 1),
  (11, .ldc_w 266, 3),
  (14, .iand, 1),
  (15, .iload_n 0, 1),
  (16, .iconst 2, 1),
  (17, .iushr, 1),
  (18, .ldc_w 266, 3),
  (21, .iand, 1),
  (22, .iadd, 1),
  (23, .istore_n 0, 1),
  (24, .iload_n 0, 1),
  (25, .iload_n 0, 1),
  (26, .iconst 4, 1),
  (27, .iushr, 1),
  (28, .iadd, 1),
  (29, .ldc_w 267, 3),
  (32, .iand, 1),
  (33, .istore_n 0, 1),
  (34, .iload_n 0, 1),
  (35, .iload_n 0, 1),
  (36, .bipush 8, 2),
  (38, .iushr, 1),
  (39, .iadd, 1),
  (40, .istore_n 0, 1),
  (41, .iload_n 0, 1),
  (42, .iload_n 0, 1),
  (43, .bipush 16, 2),
  (45, .iushr, 1),
  (46, .iadd, 1),
  (47, .istore_n 0, 1),
  (48, .iload_n 0, 1),
  (49, .bipush 63, 2),
  (51, .iand, 1),
  (52, .ireturn, 1)]
def mi_JI_bitCount : mi_T := ("java/lang/Integer", ({ cls := "java/lang/Integer", name := "bitCount", desc := "(I)I" } : MethodName), prog_22_method_49_code, 1, (Option.some FieldType.int), [], tb_JI_bitCount)
theorem mo_JI_bitCount : mi_ok mi_JI_bitCount := by
  show ∀ q ∈ tb_JI_bitCount, decode prog_22_method_49_code q.1 = .ok q.2
  decide +kernel
theorem mw_JI_bitCount : mi_w mi_JI_bitCount 1 := ⟨tb_m 782 (by decide +kernel) (by decide +kernel), tb_m 169 (by decide +kernel) rfl, ⟨by decide +kernel, by decide +kernel, by decide +kernel⟩, by decide +kernel⟩
theorem mv_JI_bitCount : Cond.static (mi_y mi_JI_bitCount) ∈ tb_G := tb_m 781 (by decide +kernel) rfl
def tb_D_predecessors : List (Nat × Instr × Nat) := [(0, .aload_n 0, 1),
  (1, .iload_n 1, 1),
  (2, .invokevirtual 137, 3),
  (5, .aload_n 0, 1),
  (6, .invokevirtual 165, 3),
  (9, .iload_n 1, 1),
  (10, .invokevirtual 169, 3),
  (13, .invokestatic 172, 3),
  (16, .ireturn, 1)]
def mi_D_predecessors : mi_T := ("DataflowLab", ({ cls := "DataflowLab", name := "predecessors", desc := "(I)I" } : MethodName), prog_1_method_13_code, 2, (Option.some FieldType.int), [], tb_D_predecessors)
theorem mo_D_predecessors : mi_ok mi_D_predecessors := by
  show ∀ q ∈ tb_D_predecessors, decode prog_1_method_13_code q.1 = .ok q.2
  decide +kernel
theorem mw_D_predecessors : mi_w mi_D_predecessors 1 := ⟨tb_m 1335 (by decide +kernel) (by decide +kernel), tb_m 144 (by decide +kernel) rfl, ⟨by decide +kernel, by decide +kernel, by decide +kernel⟩, by decide +kernel⟩
theorem mv_D_predecessors : mi_wV mi_D_predecessors := ⟨tb_m 1333 (by decide +kernel) rfl, tb_m 1334 (by decide +kernel) rfl⟩
def tb_D_isReachable : List (Nat × Instr × Nat) := [(0, .aload_n 0, 1),
  (1, .iload_n 1, 1),
  (2, .invokevirtual 137, 3),
  (5, .aload_n 0, 1),
  (6, .invokevirtual 165, 3),
  (9, .iload_n 1, 1),
  (10, .invokevirtual 177, 3),
  (13, .ireturn, 1)]
def mi_D_isReachable : mi_T := ("DataflowLab", ({ cls := "DataflowLab", name := "isReachable", desc := "(I)Z" } : MethodName), prog_1_method_14_code, 2, (Option.some FieldType.boolean), [], tb_D_isReachable)
theorem mo_D_isReachable : mi_ok mi_D_isReachable := by
  show ∀ q ∈ tb_D_isReachable, decode prog_1_method_14_code q.1 = .ok q.2
  decide +kernel
theorem mw_D_isReachable : mi_w mi_D_isReachable 1 := ⟨tb_m 1347 (by decide +kernel) (by decide +kernel), tb_m 144 (by decide +kernel) rfl, ⟨by decide +kernel, by decide +kernel, by decide +kernel⟩, by decide +kernel⟩
theorem mv_D_isReachable : mi_wV mi_D_isReachable := ⟨tb_m 1345 (by decide +kernel) rfl, tb_m 1346 (by decide +kernel) rfl⟩
def tb_G_distance : List (Nat × Instr × Nat) := [(0, .aload_n 0, 1),
  (1, .getfield 18, 3),
  (4, .iload_n 1, 1),
  (5, .invokestatic 62, 3),
  (8, .ireturn, 1)]
def mi_G_distance : mi_T := ("DataflowLab$Graph", ({ cls := "DataflowLab$Graph", name := "distance", desc := "(I)I" } : MethodName), prog_5_method_6_code, 2, (Option.some FieldType.int), [], tb_G_distance)
theorem mo_G_distance : mi_ok mi_G_distance := by
  show ∀ q ∈ tb_G_distance, decode prog_5_method_6_code q.1 = .ok q.2
  decide +kernel
theorem mw_G_distance : mi_w mi_G_distance 1 := ⟨tb_m 1359 (by decide +kernel) (by decide +kernel), tb_m 149 (by decide +kernel) rfl, ⟨by decide +kernel, by decide +kernel, by decide +kernel⟩, by decide +kernel⟩
theorem mv_G_distance : mi_wV mi_G_distance := ⟨tb_m 1357 (by decide +kernel) rfl, tb_m 1358 (by decide +kernel) rfl⟩
def tb_D_distanceTo : List (Nat × Instr × Nat) := [(0, .aload_n 0, 1),
  (1, .iload_n 1, 1),
  (2, .invokevirtual 137, 3),
  (5, .aload_n 0, 1),
  (6, .invokevirtual 165, 3),
  (9, .iload_n 1, 1),
  (10, .invokevirtual 181, 3),
  (13, .ireturn, 1)]
def mi_D_distanceTo : mi_T := ("DataflowLab", ({ cls := "DataflowLab", name := "distanceTo", desc := "(I)I" } : MethodName), prog_1_method_15_code, 2, (Option.some FieldType.int), [], tb_D_distanceTo)
theorem mo_D_distanceTo : mi_ok mi_D_distanceTo := by
  show ∀ q ∈ tb_D_distanceTo, decode prog_1_method_15_code q.1 = .ok q.2
  decide +kernel
theorem mw_D_distanceTo : mi_w mi_D_distanceTo 1 := ⟨tb_m 1355 (by decide +kernel) (by decide +kernel), tb_m 144 (by decide +kernel) rfl, ⟨by decide +kernel, by decide +kernel, by decide +kernel⟩, by decide +kernel⟩
theorem mv_D_distanceTo : mi_wV mi_D_distanceTo := ⟨tb_m 1353 (by decide +kernel) rfl, tb_m 1354 (by decide +kernel) rfl⟩
def tb_D_fill_b : List (Nat × Instr × Nat) := [(0, .iconst 0, 1),
  (1, .istore_n 3, 1),
  (2, .iload_n 3, 1),
  (3, .aload_n 0, 1),
  (4, .arraylength, 1),
  (5, .if_icmp .ge 13, 3),
  (8, .aload_n 0, 1),
  (9, .iload_n 3, 1),
  (10, .lload_n 1, 1),
  (11, .lastore, 1),
  (12, .iinc 3 1, 3),
  (15, .goto (-13), 3),
  (18, .return_, 1)]
def mi_D_fill_b : mi_T := ("DataflowLab", ({ cls := "DataflowLab", name := "fill", desc := "([JJ)V" } : MethodName), prog_1_method_85_code, 4, (Option.none : Option FieldType), [], tb_D_fill_b)
theorem mo_D_fill_b : mi_ok mi_D_fill_b := by
  show ∀ q ∈ tb_D_fill_b, decode prog_1_method_85_code q.1 = .ok q.2
  decide +kernel
theorem mw_D_fill_b : mi_w mi_D_fill_b 2 := ⟨tb_m 854 (by decide +kernel) (by decide +kernel), tb_m 144 (by decide +kernel) rfl, ⟨by decide +kernel, by decide +kernel, by decide +kernel⟩, by decide +kernel⟩
theorem mv_D_fill_b : Cond.static (mi_y mi_D_fill_b) ∈ tb_G := tb_m 853 (by decide +kernel) rfl
def tb_O_target : List (Nat × Instr × Nat) := [(0, .iload_n 0, 1),
  (1, .iconst 2, 1),
  (2, .iushr, 1),
  (3, .bipush 7, 2),
  (5, .iand, 1),
  (6, .ireturn, 1)]
def mi_O_target : mi_T := ("DataflowLab$Code", ({ cls := "DataflowLab$Code", name := "target", desc := "(I)I" } : MethodName), prog_3_method_6_code, 1, (Option.some FieldType.int), [], tb_O_target)
theorem mo_O_target : mi_ok mi_O_target := by
  show ∀ q ∈ tb_O_target, decode prog_3_method_6_code q.1 = .ok q.2
  decide +kernel
theorem mw_O_target : mi_w mi_O_target 1 := ⟨tb_m 746 (by decide +kernel) (by decide +kernel), tb_m 160 (by decide +kernel) rfl, ⟨by decide +kernel, by decide +kernel, by decide +kernel⟩, by decide +kernel⟩
theorem mv_O_target : Cond.static (mi_y mi_O_target) ∈ tb_G := tb_m 745 (by decide +kernel) rfl
def tb_P_definedAt : List (Nat × Instr × Nat) := [(0, .aload_n 0, 1),
  (1, .iload_n 1, 1),
  (2, .invokevirtual 72, 3),
  (5, .istore_n 2, 1),
  (6, .iload_n 2, 1),
  (7, .iconst (-1), 1),
  (8, .if_icmp .eq 8, 3),
  (11, .iload_n 2, 1),
  (12, .iconst 3, 1),
  (13, .if_icmp .ne 7, 3),
  (16, .iconst (-1), 1),
  (17, .goto 14, 3),
  (20, .aload_n 0, 1),
  (21, .getfield 9, 3),
  (24, .iload_n 1, 1),
  (25, .invokestatic 41, 3),
  (28, .invokestatic 75, 3),
  (31, .ireturn, 1)]
def mi_P_definedAt : mi_T := ("DataflowLab$Program", ({ cls := "DataflowLab$Program", name := "definedAt", desc := "(I)I" } : MethodName), prog_10_method_29_code, 3, (Option.some FieldType.int), [], tb_P_definedAt)
theorem mo_P_definedAt : mi_ok mi_P_definedAt := by
  show ∀ q ∈ tb_P_definedAt, decode prog_10_method_29_code q.1 = .ok q.2
  decide +kernel
theorem mw_P_definedAt : mi_w mi_P_definedAt 1 := ⟨tb_m 736 (by decide +kernel) (by decide +kernel), tb_m 145 (by decide +kernel) rfl, ⟨by decide +kernel, by decide +kernel, by decide +kernel⟩, by decide +kernel⟩
theorem mv_P_definedAt : mi_wV mi_P_definedAt := ⟨tb_m 734 (by decide +kernel) rfl, tb_m 735 (by decide +kernel) rfl⟩
def tb_D_at_b : List (Nat × Instr × Nat) := [(0, .iload_n 1, 1),
  (1, .ifCond .lt 15, 3),
  (4, .iload_n 1, 1),
  (5, .aload_n 0, 1),
  (6, .arraylength, 1),
  (7, .if_icmp .ge 9, 3),
  (10, .aload_n 0, 1),
  (11, .iload_n 1, 1),
  (12, .laload, 1),
  (13, .goto 4, 3),
  (16, .lconst 0, 1),
  (17, .lreturn, 1)]
def mi_D_at_b : mi_T := ("DataflowLab", ({ cls := "DataflowLab", name := "at", desc := "([JI)J" } : MethodName), prog_1_method_81_code, 2, (Option.some FieldType.long), [], tb_D_at_b)
theorem mo_D_at_b : mi_ok mi_D_at_b := by
  show ∀ q ∈ tb_D_at_b, decode prog_1_method_81_code q.1 = .ok q.2
  decide +kernel
theorem mw_D_at_b : mi_w mi_D_at_b 2 := ⟨tb_m 874 (by decide +kernel) (by decide +kernel), tb_m 144 (by decide +kernel) rfl, ⟨by decide +kernel, by decide +kernel, by decide +kernel⟩, by decide +kernel⟩
theorem mv_D_at_b : Cond.static (mi_y mi_D_at_b) ∈ tb_G := tb_m 873 (by decide +kernel) rfl
def tb_D_put_b : List (Nat × Instr × Nat) := [(0, .iload_n 1, 1),
  (1, .ifCond .lt 13, 3),
  (4, .iload_n 1, 1),
  (5, .aload_n 0, 1),
  (6, .arraylength, 1),
  (7, .if_icmp .ge 7, 3),
  (10, .aload_n 0, 1),
  (11, .iload_n 1, 1),
  (12, .lload_n 2, 1),
  (13, .lastore, 1),
  (14, .return_, 1)]
def mi_D_put_b : mi_T := ("DataflowLab", ({ cls := "DataflowLab", name := "put", desc := "([JIJ)V" } : MethodName), prog_1_method_83_code, 4, (Option.none : Option FieldType), [], tb_D_put_b)
theorem mo_D_put_b : mi_ok mi_D_put_b := by
  show ∀ q ∈ tb_D_put_b, decode prog_1_method_83_code q.1 = .ok q.2
  decide +kernel
theorem mw_D_put_b : mi_w mi_D_put_b 3 := ⟨tb_m 877 (by decide +kernel) (by decide +kernel), tb_m 144 (by decide +kernel) rfl, ⟨by decide +kernel, by decide +kernel, by decide +kernel⟩, by decide +kernel⟩
theorem mv_D_put_b : Cond.static (mi_y mi_D_put_b) ∈ tb_G := tb_m 876 (by decide +kernel) rfl
def tb_R_collectDefinitions : List (Nat × Instr × Nat) := [(0, .aload_n 0, 1),
  (1, .getfield 19, 3),
  (4, .lconst 0, 1),
  (5, .invokestatic 22, 3),
  (8, .iconst 0, 1),
  (9, .istore_n 2, 1),
  (10, .iload_n 2, 1),
  (11, .aload_n 1, 1),
  (12, .getfield 83, 3),
  (15, .if_icmp .ge 40, 3),
  (18, .aload_n 1, 1),
  (19, .iload_n 2, 1),
  (20, .invokevirtual 63, 3),
  (23, .istore_n 3, 1),
  (24, .iload_n 3, 1),
  (25, .iconst (-1), 1),
  (26, .if_icmp .eq 23, 3),
  (29, .aload_n 0, 1),
  (30, .getfield 19, 3),
  (33, .iload_n 3, 1),
  (34, .aload_n 0, 1),
  (35, .getfield 19, 3),
  (38, .iload_n 3, 1),
  (39, .invokestatic 56, 3),
  (42, .lconst 1, 1),
  (43, .iload_n 2, 1),
  (44, .lshl, 1),
  (45, .lor, 1),
  (46, .invokestatic 87, 3),
  (49, .iinc 2 1, 3),
  (52, .goto (-42), 3),
  (55, .return_, 1)]
def mi_R_collectDefinitions : mi_T := ("DataflowLab$Reaching", ({ cls := "DataflowLab$Reaching", name := "collectDefinitions", desc := "(LDataflowLab$Program;)V" } : MethodName), prog_11_method_8_code, 4, (Option.none : Option FieldType), [], tb_R_collectDefinitions)
theorem mo_R_collectDefinitions : mi_ok mi_R_collectDefinitions := by
  show ∀ q ∈ tb_R_collectDefinitions, decode prog_11_method_8_code q.1 = .ok q.2
  decide +kernel
theorem mw_R_collectDefinitions : mi_w mi_R_collectDefinitions 1 := ⟨tb_m 1008 (by decide +kernel) (by decide +kernel), tb_m 150 (by decide +kernel) rfl, ⟨by decide +kernel, by decide +kernel, by decide +kernel⟩, by decide +kernel⟩
theorem mv_R_collectDefinitions : mi_wV mi_R_collectDefinitions := ⟨tb_m 1007 (by decide +kernel) rfl, tb_m 33 (by decide +kernel) rfl⟩
def tb_P_firstPoint : List (Nat × Instr × Nat) := [(0, .aload_n 0, 1),
  (1, .getfield 15, 3),
  (4, .iload_n 1, 1),
  (5, .invokestatic 41, 3),
  (8, .istore_n 2, 1),
  (9, .iload_n 2, 1),
  (10, .aload_n 0, 1),
  (11, .getfield 15, 3),
  (14, .iload_n 1, 1),
  (15, .iconst 1, 1),
  (16, .iadd, 1),
  (17, .invokestatic 41, 3),
  (20, .if_icmp .ge 7, 3),
  (23, .iload_n 2, 1),
  (24, .goto 7, 3),
  (27, .bipush 40, 2),
  (29, .iload_n 1, 1),
  (30, .iadd, 1),
  (31, .ireturn, 1)]
def mi_P_firstPoint : mi_T := ("DataflowLab$Program", ({ cls := "DataflowLab$Program", name := "firstPoint", desc := "(I)I" } : MethodName), prog_10_method_23_code, 3, (Option.some FieldType.int), [], tb_P_firstPoint)
theorem mo_P_firstPoint : mi_ok mi_P_firstPoint := by
  show ∀ q ∈ tb_P_firstPoint, decode prog_10_method_23_code q.1 = .ok q.2
  decide +kernel
theorem mw_P_firstPoint : mi_w mi_P_firstPoint 1 := ⟨tb_m 726 (by decide +kernel) (by decide +kernel), tb_m 145 (by decide +kernel) rfl, ⟨by decide +kernel, by decide +kernel, by decide +kernel⟩, by decide +kernel⟩
theorem mv_P_firstPoint : mi_wV mi_P_firstPoint := ⟨tb_m 724 (by decide +kernel) rfl, tb_m 725 (by decide +kernel) rfl⟩
def tb_P_hasPoint : List (Nat × Instr × Nat) := [(0, .iload_n 1, 1),
  (1, .bipush 40, 2),
  (3, .if_icmp .ge 19, 3),
  (6, .iload_n 1, 1),
  (7, .aload_n 0, 1),
  (8, .getfield 34, 3),
  (11, .if_icmp .ge 7, 3),
  (14, .iconst 1, 1),
  (15, .goto 23, 3),
  (18, .iconst 0, 1),
  (19, .goto 19, 3),
  (22, .iload_n 1, 1),
  (23, .bipush 40, 2),
  (25, .isub, 1),
  (26, .aload_n 0, 1),
  (27, .getfield 30, 3),
  (30, .if_icmp .ge 7, 3),
  (33, .iconst 1, 1),
  (34, .goto 4, 3),
  (37, .iconst 0, 1),
  (38, .ireturn, 1)]
def mi_P_hasPoint : mi_T := ("DataflowLab$Program", ({ cls := "DataflowLab$Program", name := "hasPoint", desc := "(I)Z" } : MethodName), prog_10_method_24_code, 2, (Option.some FieldType.boolean), [], tb_P_hasPoint)
theorem mo_P_hasPoint : mi_ok mi_P_hasPoint := by
  show ∀ q ∈ tb_P_hasPoint, decode prog_10_method_24_code q.1 = .ok q.2
  decide +kernel
theorem mw_P_hasPoint : mi_w mi_P_hasPoint 1 := ⟨tb_m 709 (by decide +kernel) (by decide +kernel), tb_m 145 (by decide +kernel) rfl, ⟨by decide +kernel, by decide +kernel, by decide +kernel⟩, by decide +kernel⟩
theorem mv_P_hasPoint : mi_wV mi_P_hasPoint := ⟨tb_m 707 (by decide +kernel) rfl, tb_m 708 (by decide +kernel) rfl⟩
def tb_P_nextCount : List (Nat × Instr × Nat) := [(0, .iload_n 1, 1),
  (1, .bipush 40, 2),
  (3, .if_icmp .ge 7, 3),
  (6, .iconst 1, 1),
  (7, .goto 14, 3),
  (10, .aload_n 0, 1),
  (11, .getfield 18, 3),
  (14, .iload_n 1, 1),
  (15, .bipush 40, 2),
  (17, .isub, 1),
  (18, .invokestatic 41, 3),
  (21, .ireturn, 1)]
def mi_P_nextCount : mi_T := ("DataflowLab$Program", ({ cls := "DataflowLab$Program", name := "nextCount", desc := "(I)I" } : MethodName), prog_10_method_27_code, 2, (Option.some FieldType.int), [], tb_P_nextCount)
theorem mo_P_nextCount : mi_ok mi_P_nextCount := by
  show ∀ q ∈ tb_P_nextCount, decode prog_10_method_27_code q.1 = .ok q.2
  decide +kernel
theorem mw_P_nextCount : mi_w mi_P_nextCount 1 := ⟨tb_m 717 (by decide +kernel) (by decide +kernel), tb_m 145 (by decide +kernel) rfl, ⟨by decide +kernel, by decide +kernel, by decide +kernel⟩, by decide +kernel⟩
theorem mv_P_nextCount : mi_wV mi_P_nextCount := ⟨tb_m 715 (by decide +kernel) rfl, tb_m 716 (by decide +kernel) rfl⟩
def tb_P_nextPoint : List (Nat × Instr × Nat) := [(0, .iload_n 1, 1),
  (1, .bipush 40, 2),
  (3, .if_icmp .lt 17, 3),
  (6, .aload_n 0, 1),
  (7, .aload_n 0, 1),
  (8, .iload_n 1, 1),
  (9, .bipush 40, 2),
  (11, .isub, 1),
  (12, .iload_n 2, 1),
  (13, .invokevirtual 65, 3),
  (16, .invokevirtual 69, 3),
  (19, .ireturn, 1),
  (20, .aload_n 0, 1),
  (21, .iload_n 1, 1),
  (22, .invokevirtual 57, 3),
  (25, .istore_n 3, 1),
  (26, .iload_n 1, 1),
  (27, .iconst 1, 1),
  (28, .iadd, 1),
  (29, .aload_n 0, 1),
  (30, .getfield 15, 3),
  (33, .iload_n 3, 1),
  (34, .iconst 1, 1),
  (35, .iadd, 1),
  (36, .invokestatic 41, 3),
  (39, .if_icmp .ge 9, 3),
  (42, .iload_n 1, 1),
  (43, .iconst 1, 1),
  (44, .iadd, 1),
  (45, .goto 7, 3),
  (48, .bipush 40, 2),
  (50, .iload_n 3, 1),
  (51, .iadd, 1),
  (52, .ireturn, 1)]
def mi_P_nextPoint : mi_T := ("DataflowLab$Program", ({ cls := "DataflowLab$Program", name := "nextPoint", desc := "(II)I" } : MethodName), prog_10_method_28_code, 4, (Option.some FieldType.int), [], tb_P_nextPoint)
theorem mo_P_nextPoint : mi_ok mi_P_nextPoint := by
  show ∀ q ∈ tb_P_nextPoint, decode prog_10_method_28_code q.1 = .ok q.2
  decide +kernel
theorem mw_P_nextPoint : mi_w mi_P_nextPoint 2 := ⟨tb_m 721 (by decide +kernel) (by decide +kernel), tb_m 145 (by decide +kernel) rfl, ⟨by decide +kernel, by decide +kernel, by decide +kernel⟩, by decide +kernel⟩
theorem mv_P_nextPoint : mi_wV mi_P_nextPoint := ⟨tb_m 719 (by decide +kernel) rfl, tb_m 720 (by decide +kernel) rfl⟩
def tb_R_join : List (Nat × Instr × Nat) := [(0, .aload_n 0, 1),
  (1, .getfield 9, 3),
  (4, .iload_n 1, 1),
  (5, .invokestatic 56, 3),
  (8, .lload_n 2, 1),
  (9, .lor, 1),
  (10, .lstore 5, 2),
  (12, .aload_n 0, 1),
  (13, .getfield 15, 3),
  (16, .iload_n 1, 1),
  (17, .invokestatic 60, 3),
  (20, .iload 4, 2),
  (22, .ior, 1),
  (23, .istore 7, 2),
  (25, .lload 5, 2),
  (27, .aload_n 0, 1),
  (28, .getfield 9, 3),
  (31, .iload_n 1, 1),
  (32, .invokestatic 56, 3),
  (35, .lcmp, 1),
  (36, .ifCond .ne 16, 3),
  (39, .iload 7, 2),
  (41, .aload_n 0, 1),
  (42, .getfield 15, 3),
  (45, .iload_n 1, 1),
  (46, .invokestatic 60, 3),
  (49, .if_icmp .eq 7, 3),
  (52, .iconst 1, 1),
  (53, .goto 4, 3),
  (56, .iconst 0, 1),
  (57, .istore 8, 2),
  (59, .aload_n 0, 1),
  (60, .getfield 9, 3),
  (63, .iload_n 1, 1),
  (64, .lload 5, 2),
  (66, .invokestatic 87, 3),
  (69, .aload_n 0, 1),
  (70, .getfield 15, 3),
  (73, .iload_n 1, 1),
  (74, .iload 7, 2),
  (76, .invokestatic 39, 3),
  (79, .iload 8, 2),
  (81, .ireturn, 1)]
def mi_R_join : mi_T := ("DataflowLab$Reaching", ({ cls := "DataflowLab$Reaching", name := "join", desc := "(IJI)Z" } : MethodName), prog_11_method_10_code, 9, (Option.some FieldType.boolean), [], tb_R_join)
theorem mo_R_join : mi_ok mi_R_join := by
  show ∀ q ∈ tb_R_join, decode prog_11_method_10_code q.1 = .ok q.2
  decide +kernel
theorem mw_R_join : mi_w mi_R_join 3 := ⟨tb_m 1027 (by decide +kernel) (by decide +kernel), tb_m 150 (by decide +kernel) rfl, ⟨by decide +kernel, by decide +kernel, by decide +kernel⟩, by decide +kernel⟩
theorem mv_R_join : mi_wV mi_R_join := ⟨tb_m 1026 (by decide +kernel) rfl, tb_m 35 (by decide +kernel) rfl⟩
def tb_R_flow : List (Nat × Instr × Nat) := [(0, .aload_n 0, 1),
  (1, .getfield 9, 3),
  (4, .iload_n 2, 1),
  (5, .invokestatic 56, 3),
  (8, .lstore_n 3, 1),
  (9, .aload_n 0, 1),
  (10, .getfield 15, 3),
  (13, .iload_n 2, 1),
  (14, .invokestatic 60, 3),
  (17, .istore 5, 2),
  (19, .aload_n 1, 1),
  (20, .iload_n 2, 1),
  (21, .invokevirtual 63, 3),
  (24, .istore 6, 2),
  (26, .iload 6, 2),
  (28, .iconst (-1), 1),
  (29, .if_icmp .eq 34, 3),
  (32, .lload_n 3, 1),
  (33, .aload_n 0, 1),
  (34, .getfield 19, 3),
  (37, .iload 6, 2),
  (39, .invokestatic 56, 3),
  (42, .ldc2_w 90, 3),
  (45, .lxor, 1),
  (46, .land, 1),
  (47, .lconst 1, 1),
  (48, .iload_n 2, 1),
  (49, .lshl, 1),
  (50, .lor, 1),
  (51, .lstore_n 3, 1),
  (52, .iload 5, 2),
  (54, .iconst 1, 1),
  (55, .iload 6, 2),
  (57, .ishl, 1),
  (58, .iconst (-1), 1),
  (59, .ixor, 1),
  (60, .iand, 1),
  (61, .istore 5, 2),
  (63, .iconst 0, 1),
  (64, .istore 7, 2),
  (66, .iconst 0, 1),
  (67, .istore 8, 2),
  (69, .iload 8, 2),
  (71, .aload_n 1, 1),
  (72, .iload_n 2, 1),
  (73, .invokevirtual 92, 3),
  (76, .if_icmp .ge 29, 3),
  (79, .aload_n 0, 1),
  (80, .aload_n 1, 1),
  (81, .iload_n 2, 1),
  (82, .iload 8, 2),
  (84, .invokevirtual 95, 3),
  (87, .lload_n 3, 1),
  (88, .iload 5, 2),
  (90, .invokevirtual 99, 3),
  (93, .ifCond .eq 6, 3),
  (96, .iconst 1, 1),
  (97, .istore 7, 2),
  (99, .iinc 8 1, 3),
  (102, .goto (-33), 3),
  (105, .iload 7, 2),
  (107, .ireturn, 1)]
def mi_R_flow : mi_T := ("DataflowLab$Reaching", ({ cls := "DataflowLab$Reaching", name := "flow", desc := "(LDataflowLab$Program;I)Z" } : MethodName), prog_11_method_9_code, 9, (Option.some FieldType.boolean), [], tb_R_flow)
theorem mo_R_flow : mi_ok mi_R_flow := by
  show ∀ q ∈ tb_R_flow, decode prog_11_method_9_code q.1 = .ok q.2
  decide +kernel
theorem mw_R_flow : mi_w mi_R_flow 2 := ⟨tb_m 1019 (by decide +kernel) (by decide +kernel), tb_m 150 (by decide +kernel) rfl, ⟨by decide +kernel, by decide +kernel, by decide +kernel⟩, by decide +kernel⟩
theorem mv_R_flow : mi_wV mi_R_flow := ⟨tb_m 1018 (by decide +kernel) rfl, tb_m 34 (by decide +kernel) rfl⟩
def tb_R_analyse : List (Nat × Instr × Nat) := [(0, .aload_n 0, 1),
  (1, .getfield 9, 3),
  (4, .lconst 0, 1),
  (5, .invokestatic 22, 3),
  (8, .aload_n 0, 1),
  (9, .getfield 15, 3),
  (12, .iconst 0, 1),
  (13, .invokestatic 26, 3),
  (16, .aload_n 0, 1),
  (17, .aload_n 1, 1),
  (18, .invokevirtual 29, 3),
  (21, .aload_n 0, 1),
  (22, .getfield 15, 3),
  (25, .aload_n 1, 1),
  (26, .iconst 0, 1),
  (27, .invokevirtual 33, 3),
  (30, .sipush 255, 3),
  (33, .invokestatic 39, 3),
  (36, .iconst 1, 1),
  (37, .istore_n 2, 1),
  (38, .iconst 0, 1),
  (39, .istore_n 3, 1),
  (40, .iload_n 2, 1),
  (41, .ifCond .eq 54, 3),
  (44, .iload_n 3, 1),
  (45, .ldc 43, 2),
  (47, .if_icmp .ge 48, 3),
  (50, .iconst 0, 1),
  (51, .istore_n 2, 1),
  (52, .iconst 0, 1),
  (53, .istore 4, 2),
  (55, .iload 4, 2),
  (57, .bipush 52, 2),
  (59, .if_icmp .ge 30, 3),
  (62, .aload_n 1, 1),
  (63, .iload 4, 2),
  (65, .invokevirtual 44, 3),
  (68, .ifCond .eq 15, 3),
  (71, .aload_n 0, 1),
  (72, .aload_n 1, 1),
  (73, .iload 4, 2),
  (75, .invokevirtual 48, 3),
  (78, .ifCond .eq 5, 3),
  (81, .iconst 1, 1),
  (82, .istore_n 2, 1),
  (83, .iinc 4 1, 3),
  (86, .goto (-31), 3),
  (89, .iinc 3 1, 3),
  (92, .goto (-52), 3),
  (95, .aload_n 0, 1),
  (96, .iconst 1, 1),
  (97, .putfield 52, 3),
  (100, .return_, 1)]
def mi_R_analyse : mi_T := ("DataflowLab$Reaching", ({ cls := "DataflowLab$Reaching", name := "analyse", desc := "(LDataflowLab$Program;)V" } : MethodName), prog_11_method_2_code, 5, (Option.none : Option FieldType), [], tb_R_analyse)
theorem mo_R_analyse : mi_ok mi_R_analyse := by
  show ∀ q ∈ tb_R_analyse, decode prog_11_method_2_code q.1 = .ok q.2
  decide +kernel
theorem mw_R_analyse : mi_w mi_R_analyse 1 := ⟨tb_m 1002 (by decide +kernel) (by decide +kernel), tb_m 150 (by decide +kernel) rfl, ⟨by decide +kernel, by decide +kernel, by decide +kernel⟩, by decide +kernel⟩
theorem mv_R_analyse : mi_wV mi_R_analyse := ⟨tb_m 1000 (by decide +kernel) rfl, tb_m 1001 (by decide +kernel) rfl⟩
def tb_D_reaching : List (Nat × Instr × Nat) := [(0, .aload_n 0, 1),
  (1, .getfield 51, 3),
  (4, .getfield 474, 3),
  (7, .ifCond .ne 14, 3),
  (10, .aload_n 0, 1),
  (11, .getfield 51, 3),
  (14, .aload_n 0, 1),
  (15, .getfield 87, 3),
  (18, .invokevirtual 481, 3),
  (21, .aload_n 0, 1),
  (22, .getfield 51, 3),
  (25, .areturn, 1)]
def mi_D_reaching : mi_T := ("DataflowLab", ({ cls := "DataflowLab", name := "reaching", desc := "()LDataflowLab$Reaching;" } : MethodName), prog_1_method_76_code, 1, (Option.some (FieldType.object "DataflowLab$Reaching")), [], tb_D_reaching)
theorem mo_D_reaching : mi_ok mi_D_reaching := by
  show ∀ q ∈ tb_D_reaching, decode prog_1_method_76_code q.1 = .ok q.2
  decide +kernel
theorem mw_D_reaching : mi_w mi_D_reaching 0 := ⟨tb_m 998 (by decide +kernel) (by decide +kernel), tb_m 144 (by decide +kernel) rfl, ⟨by decide +kernel, by decide +kernel, by decide +kernel⟩, by decide +kernel⟩
theorem mv_D_reaching : mi_wV mi_D_reaching := ⟨tb_m 997 (by decide +kernel) rfl, tb_m 32 (by decide +kernel) rfl⟩
def tb_R_definitionsAt_a : List (Nat × Instr × Nat) := [(0, .aload_n 0, 1),
  (1, .getfield 9, 3),
  (4, .iload_n 1, 1),
  (5, .invokestatic 56, 3),
  (8, .lreturn, 1)]
def mi_R_definitionsAt_a : mi_T := ("DataflowLab$Reaching", ({ cls := "DataflowLab$Reaching", name := "definitionsAt", desc := "(I)J" } : MethodName), prog_11_method_3_code, 2, (Option.some FieldType.long), [], tb_R_definitionsAt_a)
theorem mo_R_definitionsAt_a : mi_ok mi_R_definitionsAt_a := by
  show ∀ q ∈ tb_R_definitionsAt_a, decode prog_11_method_3_code q.1 = .ok q.2
  decide +kernel
theorem mw_R_definitionsAt_a : mi_w mi_R_definitionsAt_a 1 := ⟨tb_m 1371 (by decide +kernel) (by decide +kernel), tb_m 150 (by decide +kernel) rfl, ⟨by decide +kernel, by decide +kernel, by decide +kernel⟩, by decide +kernel⟩
theorem mv_R_definitionsAt_a : mi_wV mi_R_definitionsAt_a := ⟨tb_m 1369 (by decide +kernel) rfl, tb_m 1370 (by decide +kernel) rfl⟩
def tb_D_reaches : List (Nat × Instr × Nat) := [(0, .aload_n 0, 1),
  (1, .iload_n 1, 1),
  (2, .invokevirtual 144, 3),
  (5, .aload_n 0, 1),
  (6, .iload_n 2, 1),
  (7, .invokevirtual 137, 3),
  (10, .aload_n 0, 1),
  (11, .invokevirtual 184, 3),
  (14, .aload_n 0, 1),
  (15, .getfield 87, 3),
  (18, .iload_n 2, 1),
  (19, .invokevirtual 188, 3),
  (22, .invokevirtual 191, 3),
  (25, .iload_n 1, 1),
  (26, .invokestatic 195, 3),
  (29, .ireturn, 1)]
def mi_D_reaches : mi_T := ("DataflowLab", ({ cls := "DataflowLab", name := "reaches", desc := "(II)Z" } : MethodName), prog_1_method_16_code, 3, (Option.some FieldType.boolean), [], tb_D_reaches)
theorem mo_D_reaches : mi_ok mi_D_reaches := by
  show ∀ q ∈ tb_D_reaches, decode prog_1_method_16_code q.1 = .ok q.2
  decide +kernel
theorem mw_D_reaches : mi_w mi_D_reaches 2 := ⟨tb_m 1366 (by decide +kernel) (by decide +kernel), tb_m 144 (by decide +kernel) rfl, ⟨by decide +kernel, by decide +kernel, by decide +kernel⟩, by decide +kernel⟩
theorem mv_D_reaches : mi_wV mi_D_reaches := ⟨tb_m 1364 (by decide +kernel) rfl, tb_m 1365 (by decide +kernel) rfl⟩
def tb_D_requireVariable : List (Nat × Instr × Nat) := [(0, .iload_n 0, 1),
  (1, .ifCond .lt 9, 3),
  (4, .iload_n 0, 1),
  (5, .bipush 8, 2),
  (7, .if_icmp .lt 14, 3),
  (10, .new 105, 3),
  (13, .dup, 1),
  (14, .ldc_w 451, 3),
  (17, .invokespecial 109, 3),
  (20, .athrow, 1),
  (21, .return_, 1)]
def mi_D_requireVariable : mi_T := ("DataflowLab", ({ cls := "DataflowLab", name := "requireVariable", desc := "(I)V" } : MethodName), prog_1_method_65_code, 1, (Option.none : Option FieldType), [], tb_D_requireVariable)
theorem mo_D_requireVariable : mi_ok mi_D_requireVariable := by
  show ∀ q ∈ tb_D_requireVariable, decode prog_1_method_65_code q.1 = .ok q.2
  decide +kernel
theorem mw_D_requireVariable : mi_w mi_D_requireVariable 1 := ⟨tb_m 1382 (by decide +kernel) (by decide +kernel), tb_m 144 (by decide +kernel) rfl, ⟨by decide +kernel, by decide +kernel, by decide +kernel⟩, by decide +kernel⟩
theorem mv_D_requireVariable : Cond.static (mi_y mi_D_requireVariable) ∈ tb_G := tb_m 1381 (by decide +kernel) rfl
def tb_R_definitionsAt_b : List (Nat × Instr × Nat) := [(0, .aload_n 0, 1),
  (1, .getfield 9, 3),
  (4, .iload_n 1, 1),
  (5, .invokestatic 56, 3),
  (8, .aload_n 0, 1),
  (9, .getfield 19, 3),
  (12, .iload_n 2, 1),
  (13, .invokestatic 56, 3),
  (16, .land, 1),
  (17, .lreturn, 1)]
def mi_R_definitionsAt_b : mi_T := ("DataflowLab$Reaching", ({ cls := "DataflowLab$Reaching", name := "definitionsAt", desc := "(II)J" } : MethodName), prog_11_method_4_code, 3, (Option.some FieldType.long), [], tb_R_definitionsAt_b)
theorem mo_R_definitionsAt_b : mi_ok mi_R_definitionsAt_b := by
  show ∀ q ∈ tb_R_definitionsAt_b, decode prog_11_method_4_code q.1 = .ok q.2
  decide +kernel
theorem mw_R_definitionsAt_b : mi_w mi_R_definitionsAt_b 2 := ⟨tb_m 1387 (by decide +kernel) (by decide +kernel), tb_m 150 (by decide +kernel) rfl, ⟨by decide +kernel, by decide +kernel, by decide +kernel⟩, by decide +kernel⟩
theorem mv_R_definitionsAt_b : mi_wV mi_R_definitionsAt_b := ⟨tb_m 1385 (by decide +kernel) rfl, tb_m 1386 (by decide +kernel) rfl⟩
def tb_JL_bitCount : List (Nat × Instr × Nat) := [(0, .lload_n 0, 1),
  (1, .lload_n 0, 1),
  (2, .iconst 1, 1),
  (3, .lushr, 1),
  (4, .ldc2_w 314, 3),
  (7, .land, 1),
  (8, .lsub, 1),
  (9, .lstore_n 0, 1),
  (10, .lload_n 0, 1),
  (11, .ldc2_w 316, 3),
  (14, .land, 1),
  (15, .lload_n 0, 1),
  (16, .iconst 2, 1),
  (17, .lushr, 1),
  (18, .ldc2_w 316, 3),
  (21, .land, 1),
  (22, .ladd, 1),
  (23, .lstore_n 0, 1),
  (24, .lload_n 0, 1),
  (25, .lload_n 0, 1),
  (26, .iconst 4, 1),
  (27, .lushr, 1),
  (28, .ladd, 1),
  (29, .ldc2_w 318, 3),
  (32, .land, 1),
  (33, .lstore_n 0, 1),
  (34, .lload_n 0, 1),
  (35, .lload_n 0, 1),
  (36, .bipush 8, 2),
  (38, .lushr, 1),
  (39, .ladd, 1),
  (40, .lstore_n 0, 1),
  (41, .lload_n 0, 1),
  (42, .lload_n 0, 1),
  (43, .bipush 16, 2),
  (45, .lushr, 1),
  (46, .ladd, 1),
  (47, .lstore_n 0, 1),
  (48, .lload_n 0, 1),
  (49, .lload_n 0, 1),
  (50, .bipush 32, 2),
  (52, .lushr, 1),
  (53, .ladd, 1),
  (54, .lstore_n 0, 1),
  (55, .lload_n 0, 1),
  (56, .l2i, 1),
  (57, .bipush 127, 2),
  (59, .iand, 1),
  (60, .ireturn, 1)]
def mi_JL_bitCount : mi_T := ("java/lang/Long", ({ cls := "java/lang/Long", name := "bitCount", desc := "(J)I" } : MethodName), prog_23_method_50_code, 2, (Option.some FieldType.int), [], tb_JL_bitCount)
theorem mo_JL_bitCount : mi_ok mi_JL_bitCount := by
  show ∀ q ∈ tb_JL_bitCount, decode prog_23_method_50_code q.1 = .ok q.2
  decide +kernel
theorem mw_JL_bitCount : mi_w mi_JL_bitCount 1 := ⟨tb_m 1390 (by decide +kernel) (by decide +kernel), tb_m 170 (by decide +kernel) rfl, ⟨by decide +kernel, by decide +kernel, by decide +kernel⟩, by decide +kernel⟩
theorem mv_JL_bitCount : Cond.static (mi_y mi_JL_bitCount) ∈ tb_G := tb_m 1389 (by decide +kernel) rfl
def tb_D_reachingDefinitions : List (Nat × Instr × Nat) := [(0, .aload_n 0, 1),
  (1, .iload_n 1, 1),
  (2, .invokevirtual 137, 3),
  (5, .iload_n 2, 1),
  (6, .invokestatic 199, 3),
  (9, .aload_n 0, 1),
  (10, .invokevirtual 184, 3),
  (13, .aload_n 0, 1),
  (14, .getfield 87, 3),
  (17, .iload_n 1, 1),
  (18, .invokevirtual 188, 3),
  (21, .iload_n 2, 1),
  (22, .invokevirtual 202, 3),
  (25, .invokestatic 205, 3),
  (28, .ireturn, 1)]
def mi_D_reachingDefinitions : mi_T := ("DataflowLab", ({ cls := "DataflowLab", name := "reachingDefinitions", desc := "(II)I" } : MethodName), prog_1_method_17_code, 3, (Option.some FieldType.int), [], tb_D_reachingDefinitions)
theorem mo_D_reachingDefinitions : mi_ok mi_D_reachingDefinitions := by
  show ∀ q ∈ tb_D_reachingDefinitions, decode prog_1_method_17_code q.1 = .ok q.2
  decide +kernel
theorem mw_D_reachingDefinitions : mi_w mi_D_reachingDefinitions 2 := ⟨tb_m 1379 (by decide +kernel) (by decide +kernel), tb_m 144 (by decide +kernel) rfl, ⟨by decide +kernel, by decide +kernel, by decide +kernel⟩, by decide +kernel⟩
theorem mv_D_reachingDefinitions : mi_wV mi_D_reachingDefinitions := ⟨tb_m 1377 (by decide +kernel) rfl, tb_m 1378 (by decide +kernel) rfl⟩
def tb_R_initialsAt : List (Nat × Instr × Nat) := [(0, .aload_n 0, 1),
  (1, .getfield 15, 3),
  (4, .iload_n 1, 1),
  (5, .invokestatic 60, 3),
  (8, .ireturn, 1)]
def mi_R_initialsAt : mi_T := ("DataflowLab$Reaching", ({ cls := "DataflowLab$Reaching", name := "initialsAt", desc := "(I)I" } : MethodName), prog_11_method_5_code, 2, (Option.some FieldType.int), [], tb_R_initialsAt)
theorem mo_R_initialsAt : mi_ok mi_R_initialsAt := by
  show ∀ q ∈ tb_R_initialsAt, decode prog_11_method_5_code q.1 = .ok q.2
  decide +kernel
theorem mw_R_initialsAt : mi_w mi_R_initialsAt 1 := ⟨tb_m 1048 (by decide +kernel) (by decide +kernel), tb_m 150 (by decide +kernel) rfl, ⟨by decide +kernel, by decide +kernel, by decide +kernel⟩, by decide +kernel⟩
theorem mv_R_initialsAt : mi_wV mi_R_initialsAt := ⟨tb_m 1046 (by decide +kernel) rfl, tb_m 1047 (by decide +kernel) rfl⟩
def tb_D_isInitialReaching : List (Nat × Instr × Nat) := [(0, .aload_n 0, 1),
  (1, .iload_n 1, 1),
  (2, .invokevirtual 137, 3),
  (5, .iload_n 2, 1),
  (6, .invokestatic 199, 3),
  (9, .aload_n 0, 1),
  (10, .invokevirtual 184, 3),
  (13, .aload_n 0, 1),
  (14, .getfield 87, 3),
  (17, .iload_n 1, 1),
  (18, .invokevirtual 188, 3),
  (21, .invokevirtual 210, 3),
  (24, .i2l, 1),
  (25, .iload_n 2, 1),
  (26, .invokestatic 195, 3),
  (29, .ireturn, 1)]
def mi_D_isInitialReaching : mi_T := ("DataflowLab", ({ cls := "DataflowLab", name := "isInitialReaching", desc := "(II)Z" } : MethodName), prog_1_method_18_code, 3, (Option.some FieldType.boolean), [], tb_D_isInitialReaching)
theorem mo_D_isInitialReaching : mi_ok mi_D_isInitialReaching := by
  show ∀ q ∈ tb_D_isInitialReaching, decode prog_1_method_18_code q.1 = .ok q.2
  decide +kernel
theorem mw_D_isInitialReaching : mi_w mi_D_isInitialReaching 2 := ⟨tb_m 1400 (by decide +kernel) (by decide +kernel), tb_m 144 (by decide +kernel) rfl, ⟨by decide +kernel, by decide +kernel, by decide +kernel⟩, by decide +kernel⟩
theorem mv_D_isInitialReaching : mi_wV mi_D_isInitialReaching := ⟨tb_m 1398 (by decide +kernel) rfl, tb_m 1399 (by decide +kernel) rfl⟩
def tb_O_left : List (Nat × Instr × Nat) := [(0, .iload_n 0, 1),
  (1, .iconst 5, 1),
  (2, .iushr, 1),
  (3, .bipush 7, 2),
  (5, .iand, 1),
  (6, .ireturn, 1)]
def mi_O_left : mi_T := ("DataflowLab$Code", ({ cls := "DataflowLab$Code", name := "left", desc := "(I)I" } : MethodName), prog_3_method_7_code, 1, (Option.some FieldType.int), [], tb_O_left)
theorem mo_O_left : mi_ok mi_O_left := by
  show ∀ q ∈ tb_O_left, decode prog_3_method_7_code q.1 = .ok q.2
  decide +kernel
theorem mw_O_left : mi_w mi_O_left 1 := ⟨tb_m 757 (by decide +kernel) (by decide +kernel), tb_m 160 (by decide +kernel) rfl, ⟨by decide +kernel, by decide +kernel, by decide +kernel⟩, by decide +kernel⟩
theorem mv_O_left : Cond.static (mi_y mi_O_left) ∈ tb_G := tb_m 756 (by decide +kernel) rfl
def tb_O_right : List (Nat × Instr × Nat) := [(0, .iload_n 0, 1),
  (1, .bipush 8, 2),
  (3, .iushr, 1),
  (4, .bipush 7, 2),
  (6, .iand, 1),
  (7, .ireturn, 1)]
def mi_O_right : mi_T := ("DataflowLab$Code", ({ cls := "DataflowLab$Code", name := "right", desc := "(I)I" } : MethodName), prog_3_method_8_code, 1, (Option.some FieldType.int), [], tb_O_right)
theorem mo_O_right : mi_ok mi_O_right := by
  show ∀ q ∈ tb_O_right, decode prog_3_method_8_code q.1 = .ok q.2
  decide +kernel
theorem mw_O_right : mi_w mi_O_right 1 := ⟨tb_m 760 (by decide +kernel) (by decide +kernel), tb_m 160 (by decide +kernel) rfl, ⟨by decide +kernel, by decide +kernel, by decide +kernel⟩, by decide +kernel⟩
theorem mv_O_right : Cond.static (mi_y mi_O_right) ∈ tb_G := tb_m 759 (by decide +kernel) rfl
def tb_P_operandAt : List (Nat × Instr × Nat) := [(0, .aload_n 0, 1),
  (1, .getfield 9, 3),
  (4, .iload_n 1, 1),
  (5, .invokestatic 41, 3),
  (8, .istore_n 3, 1),
  (9, .iload_n 2, 1),
  (10, .ifCond .ne 15, 3),
  (13, .iload_n 3, 1),
  (14, .invokestatic 60, 3),
  (17, .ifCond .eq 8, 3),
  (20, .iload_n 3, 1),
  (21, .invokestatic 78, 3),
  (24, .ireturn, 1),
  (25, .iload_n 2, 1),
  (26, .iconst 1, 1),
  (27, .if_icmp .ne 18, 3),
  (30, .iload_n 3, 1),
  (31, .invokestatic 60, 3),
  (34, .iconst 2, 1),
  (35, .if_icmp .ne 10, 3),
  (38, .iload_n 3, 1),
  (39, .invokestatic 81, 3),
  (42, .goto 4, 3),
  (45, .iconst (-1), 1),
  (46, .ireturn, 1)]
def mi_P_operandAt : mi_T := ("DataflowLab$Program", ({ cls := "DataflowLab$Program", name := "operandAt", desc := "(II)I" } : MethodName), prog_10_method_30_code, 4, (Option.some FieldType.int), [], tb_P_operandAt)
theorem mo_P_operandAt : mi_ok mi_P_operandAt := by
  show ∀ q ∈ tb_P_operandAt, decode prog_10_method_30_code q.1 = .ok q.2
  decide +kernel
theorem mw_P_operandAt : mi_w mi_P_operandAt 2 := ⟨tb_m 754 (by decide +kernel) (by decide +kernel), tb_m 145 (by decide +kernel) rfl, ⟨by decide +kernel, by decide +kernel, by decide +kernel⟩, by decide +kernel⟩
theorem mv_P_operandAt : mi_wV mi_P_operandAt := ⟨tb_m 752 (by decide +kernel) rfl, tb_m 753 (by decide +kernel) rfl⟩
def tb_P_usedAt : List (Nat × Instr × Nat) := [(0, .iload_n 1, 1),
  (1, .bipush 40, 2),
  (3, .if_icmp .lt 35, 3),
  (6, .iload_n 1, 1),
  (7, .bipush 40, 2),
  (9, .isub, 1),
  (10, .istore_n 2, 1),
  (11, .aload_n 0, 1),
  (12, .getfield 18, 3),
  (15, .iload_n 2, 1),
  (16, .invokestatic 41, 3),
  (19, .iconst 2, 1),
  (20, .if_icmp .ne 16, 3),
  (23, .iconst 1, 1),
  (24, .aload_n 0, 1),
  (25, .getfield 21, 3),
  (28, .iload_n 2, 1),
  (29, .invokestatic 41, 3),
  (32, .ishl, 1),
  (33, .goto 4, 3),
  (36, .iconst 0, 1),
  (37, .ireturn, 1),
  (38, .aload_n 0, 1),
  (39, .iload_n 1, 1),
  (40, .iconst 0, 1),
  (41, .invokevirtual 84, 3),
  (44, .istore_n 2, 1),
  (45, .aload_n 0, 1),
  (46, .iload_n 1, 1),
  (47, .iconst 1, 1),
  (48, .invokevirtual 84, 3),
  (51, .istore_n 3, 1),
  (52, .iload_n 2, 1),
  (53, .iconst (-1), 1),
  (54, .if_icmp .ne 7, 3),
  (57, .iconst 0, 1),
  (58, .goto 6, 3),
  (61, .iconst 1, 1),
  (62, .iload_n 2, 1),
  (63, .ishl, 1),
  (64, .iload_n 3, 1),
  (65, .iconst (-1), 1),
  (66, .if_icmp .ne 7, 3),
  (69, .iconst 0, 1),
  (70, .goto 6, 3),
  (73, .iconst 1, 1),
  (74, .iload_n 3, 1),
  (75, .ishl, 1),
  (76, .ior, 1),
  (77, .ireturn, 1)]
def mi_P_usedAt : mi_T := ("DataflowLab$Program", ({ cls := "DataflowLab$Program", name := "usedAt", desc := "(I)I" } : MethodName), prog_10_method_31_code, 4, (Option.some FieldType.int), [], tb_P_usedAt)
theorem mo_P_usedAt : mi_ok mi_P_usedAt := by
  show ∀ q ∈ tb_P_usedAt, decode prog_10_method_31_code q.1 = .ok q.2
  decide +kernel
theorem mw_P_usedAt : mi_w mi_P_usedAt 1 := ⟨tb_m 750 (by decide +kernel) (by decide +kernel), tb_m 145 (by decide +kernel) rfl, ⟨by decide +kernel, by decide +kernel, by decide +kernel⟩, by decide +kernel⟩
theorem mv_P_usedAt : mi_wV mi_P_usedAt := ⟨tb_m 748 (by decide +kernel) rfl, tb_m 749 (by decide +kernel) rfl⟩
def tb_R_countUses : List (Nat × Instr × Nat) := [(0, .aload_n 1, 1),
  (1, .iload_n 2, 1),
  (2, .invokevirtual 63, 3),
  (5, .istore_n 3, 1),
  (6, .iconst 0, 1),
  (7, .istore 4, 2),
  (9, .iconst 0, 1),
  (10, .istore 5, 2),
  (12, .iload_n 3, 1),
  (13, .iconst (-1), 1),
  (14, .if_icmp .eq 49, 3),
  (17, .iload 5, 2),
  (19, .bipush 52, 2),
  (21, .if_icmp .ge 42, 3),
  (24, .aload_n 0, 1),
  (25, .getfield 9, 3),
  (28, .iload 5, 2),
  (30, .invokestatic 56, 3),
  (33, .iload_n 2, 1),
  (34, .invokestatic 66, 3),
  (37, .ifCond .eq 20, 3),
  (40, .aload_n 1, 1),
  (41, .iload 5, 2),
  (43, .invokevirtual 70, 3),
  (46, .i2l, 1),
  (47, .iload_n 3, 1),
  (48, .invokestatic 66, 3),
  (51, .ifCond .eq 6, 3),
  (54, .iinc 4 1, 3),
  (57, .iinc 5 1, 3),
  (60, .goto (-48), 3),
  (63, .iload 4, 2),
  (65, .ireturn, 1)]
def mi_R_countUses : mi_T := ("DataflowLab$Reaching", ({ cls := "DataflowLab$Reaching", name := "countUses", desc := "(LDataflowLab$Program;I)I" } : MethodName), prog_11_method_6_code, 6, (Option.some FieldType.int), [], tb_R_countUses)
theorem mo_R_countUses : mi_ok mi_R_countUses := by
  show ∀ q ∈ tb_R_countUses, decode prog_11_method_6_code q.1 = .ok q.2
  decide +kernel
theorem mw_R_countUses : mi_w mi_R_countUses 2 := ⟨tb_m 1412 (by decide +kernel) (by decide +kernel), tb_m 150 (by decide +kernel) rfl, ⟨by decide +kernel, by decide +kernel, by decide +kernel⟩, by decide +kernel⟩
theorem mv_R_countUses : mi_wV mi_R_countUses := ⟨tb_m 1410 (by decide +kernel) rfl, tb_m 1411 (by decide +kernel) rfl⟩
def tb_D_usesOf : List (Nat × Instr × Nat) := [(0, .aload_n 0, 1),
  (1, .iload_n 1, 1),
  (2, .invokevirtual 144, 3),
  (5, .aload_n 0, 1),
  (6, .invokevirtual 184, 3),
  (9, .aload_n 0, 1),
  (10, .getfield 87, 3),
  (13, .iload_n 1, 1),
  (14, .invokevirtual 213, 3),
  (17, .ireturn, 1)]
def mi_D_usesOf : mi_T := ("DataflowLab", ({ cls := "DataflowLab", name := "usesOf", desc := "(I)I" } : MethodName), prog_1_method_19_code, 2, (Option.some FieldType.int), [], tb_D_usesOf)
theorem mo_D_usesOf : mi_ok mi_D_usesOf := by
  show ∀ q ∈ tb_D_usesOf, decode prog_1_method_19_code q.1 = .ok q.2
  decide +kernel
theorem mw_D_usesOf : mi_w mi_D_usesOf 1 := ⟨tb_m 1408 (by decide +kernel) (by decide +kernel), tb_m 144 (by decide +kernel) rfl, ⟨by decide +kernel, by decide +kernel, by decide +kernel⟩, by decide +kernel⟩
theorem mv_D_usesOf : mi_wV mi_D_usesOf := ⟨tb_m 1406 (by decide +kernel) rfl, tb_m 1407 (by decide +kernel) rfl⟩
def tb_R_onlyDefinitionAt : List (Nat × Instr × Nat) := [(0, .aload_n 0, 1),
  (1, .iload_n 1, 1),
  (2, .iload_n 2, 1),
  (3, .invokevirtual 73, 3),
  (6, .lstore_n 3, 1),
  (7, .aload_n 0, 1),
  (8, .getfield 15, 3),
  (11, .iload_n 1, 1),
  (12, .invokestatic 60, 3),
  (15, .i2l, 1),
  (16, .iload_n 2, 1),
  (17, .invokestatic 66, 3),
  (20, .ifCond .ne 11, 3),
  (23, .lload_n 3, 1),
  (24, .invokestatic 77, 3),
  (27, .iconst 1, 1),
  (28, .if_icmp .eq 5, 3),
  (31, .iconst (-1), 1),
  (32, .ireturn, 1),
  (33, .iconst 0, 1),
  (34, .istore 5, 2),
  (36, .iload 5, 2),
  (38, .bipush 40, 2),
  (40, .if_icmp .ge 18, 3),
  (43, .lload_n 3, 1),
  (44, .iload 5, 2),
  (46, .invokestatic 66, 3),
  (49, .ifCond .ne 9, 3),
  (52, .iinc 5 1, 3),
  (55, .goto (-19), 3),
  (58, .iload 5, 2),
  (60, .ireturn, 1)]
def mi_R_onlyDefinitionAt : mi_T := ("DataflowLab$Reaching", ({ cls := "DataflowLab$Reaching", name := "onlyDefinitionAt", desc := "(II)I" } : MethodName), prog_11_method_7_code, 6, (Option.some FieldType.int), [], tb_R_onlyDefinitionAt)
theorem mo_R_onlyDefinitionAt : mi_ok mi_R_onlyDefinitionAt := by
  show ∀ q ∈ tb_R_onlyDefinitionAt, decode prog_11_method_7_code q.1 = .ok q.2
  decide +kernel
theorem mw_R_onlyDefinitionAt : mi_w mi_R_onlyDefinitionAt 2 := ⟨tb_m 1427 (by decide +kernel) (by decide +kernel), tb_m 150 (by decide +kernel) rfl, ⟨by decide +kernel, by decide +kernel, by decide +kernel⟩, by decide +kernel⟩
theorem mv_R_onlyDefinitionAt : mi_wV mi_R_onlyDefinitionAt := ⟨tb_m 1425 (by decide +kernel) rfl, tb_m 1426 (by decide +kernel) rfl⟩
def tb_D_onlyDefinition : List (Nat × Instr × Nat) := [(0, .aload_n 0, 1),
  (1, .iload_n 1, 1),
  (2, .invokevirtual 144, 3),
  (5, .aload_n 0, 1),
  (6, .getfield 87, 3),
  (9, .iload_n 1, 1),
  (10, .iload_n 2, 1),
  (11, .invokevirtual 217, 3),
  (14, .istore_n 3, 1),
  (15, .iload_n 3, 1),
  (16, .iconst (-1), 1),
  (17, .if_icmp .ne 13, 3),
  (20, .new 156, 3),
  (23, .dup, 1),
  (24, .ldc 220, 2),
  (26, .invokespecial 160, 3),
  (29, .athrow, 1),
  (30, .aload_n 0, 1),
  (31, .invokevirtual 184, 3),
  (34, .iload_n 1, 1),
  (35, .iload_n 3, 1),
  (36, .invokevirtual 222, 3),
  (39, .ireturn, 1)]
def mi_D_onlyDefinition : mi_T := ("DataflowLab", ({ cls := "DataflowLab", name := "onlyDefinition", desc := "(II)I" } : MethodName), prog_1_method_20_code, 4, (Option.some FieldType.int), [], tb_D_onlyDefinition)
theorem mo_D_onlyDefinition : mi_ok mi_D_onlyDefinition := by
  show ∀ q ∈ tb_D_onlyDefinition, decode prog_1_method_20_code q.1 = .ok q.2
  decide +kernel
theorem mw_D_onlyDefinition : mi_w mi_D_onlyDefinition 2 := ⟨tb_m 1421 (by decide +kernel) (by decide +kernel), tb_m 144 (by decide +kernel) rfl, ⟨by decide +kernel, by decide +kernel, by decide +kernel⟩, by decide +kernel⟩
theorem mv_D_onlyDefinition : mi_wV mi_D_onlyDefinition := ⟨tb_m 1419 (by decide +kernel) rfl, tb_m 1420 (by decide +kernel) rfl⟩
def tb_L_flow : List (Nat × Instr × Nat) := [(0, .iconst 0, 1),
  (1, .istore_n 3, 1),
  (2, .iconst 0, 1),
  (3, .istore 4, 2),
  (5, .iload 4, 2),
  (7, .aload_n 1, 1),
  (8, .iload_n 2, 1),
  (9, .invokevirtual 73, 3),
  (12, .if_icmp .ge 26, 3),
  (15, .iload_n 3, 1),
  (16, .aload_n 0, 1),
  (17, .getfield 9, 3),
  (20, .aload_n 1, 1),
  (21, .iload_n 2, 1),
  (22, .iload 4, 2),
  (24, .invokevirtual 76, 3),
  (27, .invokestatic 37, 3),
  (30, .ior, 1),
  (31, .istore_n 3, 1),
  (32, .iinc 4 1, 3),
  (35, .goto (-30), 3),
  (38, .aload_n 0, 1),
  (39, .getfield 15, 3),
  (42, .iload_n 2, 1),
  (43, .iload_n 3, 1),
  (44, .invokestatic 79, 3),
  (47, .aload_n 1, 1),
  (48, .iload_n 2, 1),
  (49, .invokevirtual 41, 3),
  (52, .istore 4, 2),
  (54, .iload 4, 2),
  (56, .iconst (-1), 1),
  (57, .if_icmp .eq 12, 3),
  (60, .iload_n 3, 1),
  (61, .iconst 1, 1),
  (62, .iload 4, 2),
  (64, .ishl, 1),
  (65, .iconst (-1), 1),
  (66, .ixor, 1),
  (67, .iand, 1),
  (68, .istore_n 3, 1),
  (69, .iload_n 3, 1),
  (70, .aload_n 1, 1),
  (71, .iload_n 2, 1),
  (72, .invokevirtual 83, 3),
  (75, .ior, 1),
  (76, .istore_n 3, 1),
  (77, .iload_n 3, 1),
  (78, .aload_n 0, 1),
  (79, .getfield 9, 3),
  (82, .iload_n 2, 1),
  (83, .invokestatic 37, 3),
  (86, .if_icmp .eq 7, 3),
  (89, .iconst 1, 1),
  (90, .goto 4, 3),
  (93, .iconst 0, 1),
  (94, .istore 5, 2),
  (96, .aload_n 0, 1),
  (97, .getfield 9, 3),
  (100, .iload_n 2, 1),
  (101, .iload_n 3, 1),
  (102, .invokestatic 79, 3),
  (105, .iload 5, 2),
  (107, .ireturn, 1)]
def mi_L_flow : mi_T := ("DataflowLab$Liveness", ({ cls := "DataflowLab$Liveness", name := "flow", desc := "(LDataflowLab$Program;I)Z" } : MethodName), prog_7_method_10_code, 6, (Option.some FieldType.boolean), [], tb_L_flow)
theorem mo_L_flow : mi_ok mi_L_flow := by
  show ∀ q ∈ tb_L_flow, decode prog_7_method_10_code q.1 = .ok q.2
  decide +kernel
theorem mw_L_flow : mi_w mi_L_flow 2 := ⟨tb_m 713 (by decide +kernel) (by decide +kernel), tb_m 151 (by decide +kernel) rfl, ⟨by decide +kernel, by decide +kernel, by decide +kernel⟩, by decide +kernel⟩
theorem mv_L_flow : mi_wV mi_L_flow := ⟨tb_m 712 (by decide +kernel) rfl, tb_m 15 (by decide +kernel) rfl⟩
def tb_L_analyse : List (Nat × Instr × Nat) := [(0, .aload_n 0, 1),
  (1, .getfield 9, 3),
  (4, .iconst 0, 1),
  (5, .invokestatic 18, 3),
  (8, .aload_n 0, 1),
  (9, .getfield 15, 3),
  (12, .iconst 0, 1),
  (13, .invokestatic 18, 3),
  (16, .iconst 1, 1),
  (17, .istore_n 2, 1),
  (18, .iconst 0, 1),
  (19, .istore_n 3, 1),
  (20, .iload_n 2, 1),
  (21, .ifCond .eq 53, 3),
  (24, .iload_n 3, 1),
  (25, .ldc 22, 2),
  (27, .if_icmp .ge 47, 3),
  (30, .iconst 0, 1),
  (31, .istore_n 2, 1),
  (32, .bipush 51, 2),
  (34, .istore 4, 2),
  (36, .iload 4, 2),
  (38, .ifCond .lt 30, 3),
  (41, .aload_n 1, 1),
  (42, .iload 4, 2),
  (44, .invokevirtual 23, 3),
  (47, .ifCond .eq 15, 3),
  (50, .aload_n 0, 1),
  (51, .aload_n 1, 1),
  (52, .iload 4, 2),
  (54, .invokevirtual 29, 3),
  (57, .ifCond .eq 5, 3),
  (60, .iconst 1, 1),
  (61, .istore_n 2, 1),
  (62, .iinc 4 (-1), 3),
  (65, .goto (-29), 3),
  (68, .iinc 3 1, 3),
  (71, .goto (-51), 3),
  (74, .aload_n 0, 1),
  (75, .iconst 1, 1),
  (76, .putfield 33, 3),
  (79, .return_, 1)]
def mi_L_analyse : mi_T := ("DataflowLab$Liveness", ({ cls := "DataflowLab$Liveness", name := "analyse", desc := "(LDataflowLab$Program;)V" } : MethodName), prog_7_method_2_code, 5, (Option.none : Option FieldType), [], tb_L_analyse)
theorem mo_L_analyse : mi_ok mi_L_analyse := by
  show ∀ q ∈ tb_L_analyse, decode prog_7_method_2_code q.1 = .ok q.2
  decide +kernel
theorem mw_L_analyse : mi_w mi_L_analyse 1 := ⟨tb_m 701 (by decide +kernel) (by decide +kernel), tb_m 151 (by decide +kernel) rfl, ⟨by decide +kernel, by decide +kernel, by decide +kernel⟩, by decide +kernel⟩
theorem mv_L_analyse : mi_wV mi_L_analyse := ⟨tb_m 699 (by decide +kernel) rfl, tb_m 700 (by decide +kernel) rfl⟩
def tb_D_liveness : List (Nat × Instr × Nat) := [(0, .aload_n 0, 1),
  (1, .getfield 58, 3),
  (4, .getfield 475, 3),
  (7, .ifCond .ne 14, 3),
  (10, .aload_n 0, 1),
  (11, .getfield 58, 3),
  (14, .aload_n 0, 1),
  (15, .getfield 87, 3),
  (18, .invokevirtual 482, 3),
  (21, .aload_n 0, 1),
  (22, .getfield 58, 3),
  (25, .areturn, 1)]
def mi_D_liveness : mi_T := ("DataflowLab", ({ cls := "DataflowLab", name := "liveness", desc := "()LDataflowLab$Liveness;" } : MethodName), prog_1_method_77_code, 1, (Option.some (FieldType.object "DataflowLab$Liveness")), [], tb_D_liveness)
theorem mo_D_liveness : mi_ok mi_D_liveness := by
  show ∀ q ∈ tb_D_liveness, decode prog_1_method_77_code q.1 = .ok q.2
  decide +kernel
theorem mw_D_liveness : mi_w mi_D_liveness 0 := ⟨tb_m 697 (by decide +kernel) (by decide +kernel), tb_m 144 (by decide +kernel) rfl, ⟨by decide +kernel, by decide +kernel, by decide +kernel⟩, by decide +kernel⟩
theorem mv_D_liveness : mi_wV mi_D_liveness := ⟨tb_m 696 (by decide +kernel) rfl, tb_m 14 (by decide +kernel) rfl⟩
def tb_L_liveAt : List (Nat × Instr × Nat) := [(0, .aload_n 0, 1),
  (1, .getfield 9, 3),
  (4, .iload_n 1, 1),
  (5, .invokestatic 37, 3),
  (8, .ireturn, 1)]
def mi_L_liveAt : mi_T := ("DataflowLab$Liveness", ({ cls := "DataflowLab$Liveness", name := "liveAt", desc := "(I)I" } : MethodName), prog_7_method_3_code, 2, (Option.some FieldType.int), [], tb_L_liveAt)
theorem mo_L_liveAt : mi_ok mi_L_liveAt := by
  show ∀ q ∈ tb_L_liveAt, decode prog_7_method_3_code q.1 = .ok q.2
  decide +kernel
theorem mw_L_liveAt : mi_w mi_L_liveAt 1 := ⟨tb_m 1440 (by decide +kernel) (by decide +kernel), tb_m 151 (by decide +kernel) rfl, ⟨by decide +kernel, by decide +kernel, by decide +kernel⟩, by decide +kernel⟩
theorem mv_L_liveAt : mi_wV mi_L_liveAt := ⟨tb_m 1438 (by decide +kernel) rfl, tb_m 1439 (by decide +kernel) rfl⟩
def tb_D_isLiveIn : List (Nat × Instr × Nat) := [(0, .aload_n 0, 1),
  (1, .iload_n 1, 1),
  (2, .invokevirtual 137, 3),
  (5, .iload_n 2, 1),
  (6, .invokestatic 199, 3),
  (9, .aload_n 0, 1),
  (10, .invokevirtual 225, 3),
  (13, .aload_n 0, 1),
  (14, .getfield 87, 3),
  (17, .iload_n 1, 1),
  (18, .invokevirtual 188, 3),
  (21, .invokevirtual 229, 3),
  (24, .i2l, 1),
  (25, .iload_n 2, 1),
  (26, .invokestatic 195, 3),
  (29, .ireturn, 1)]
def mi_D_isLiveIn : mi_T := ("DataflowLab", ({ cls := "DataflowLab", name := "isLiveIn", desc := "(II)Z" } : MethodName), prog_1_method_21_code, 3, (Option.some FieldType.boolean), [], tb_D_isLiveIn)
theorem mo_D_isLiveIn : mi_ok mi_D_isLiveIn := by
  show ∀ q ∈ tb_D_isLiveIn, decode prog_1_method_21_code q.1 = .ok q.2
  decide +kernel
theorem mw_D_isLiveIn : mi_w mi_D_isLiveIn 2 := ⟨tb_m 1436 (by decide +kernel) (by decide +kernel), tb_m 144 (by decide +kernel) rfl, ⟨by decide +kernel, by decide +kernel, by decide +kernel⟩, by decide +kernel⟩
theorem mv_D_isLiveIn : mi_wV mi_D_isLiveIn := ⟨tb_m 1434 (by decide +kernel) rfl, tb_m 1435 (by decide +kernel) rfl⟩
def tb_P_exitPoint : List (Nat × Instr × Nat) := [(0, .bipush 40, 2),
  (2, .iload_n 1, 1),
  (3, .iadd, 1),
  (4, .ireturn, 1)]
def mi_P_exitPoint : mi_T := ("DataflowLab$Program", ({ cls := "DataflowLab$Program", name := "exitPoint", desc := "(I)I" } : MethodName), prog_10_method_22_code, 2, (Option.some FieldType.int), [], tb_P_exitPoint)
theorem mo_P_exitPoint : mi_ok mi_P_exitPoint := by
  show ∀ q ∈ tb_P_exitPoint, decode prog_10_method_22_code q.1 = .ok q.2
  decide +kernel
theorem mw_P_exitPoint : mi_w mi_P_exitPoint 1 := ⟨tb_m 981 (by decide +kernel) (by decide +kernel), tb_m 145 (by decide +kernel) rfl, ⟨by decide +kernel, by decide +kernel, by decide +kernel⟩, by decide +kernel⟩
theorem mv_P_exitPoint : mi_wV mi_P_exitPoint := ⟨tb_m 979 (by decide +kernel) rfl, tb_m 980 (by decide +kernel) rfl⟩
def tb_L_liveBehind : List (Nat × Instr × Nat) := [(0, .aload_n 0, 1),
  (1, .getfield 15, 3),
  (4, .iload_n 1, 1),
  (5, .invokestatic 37, 3),
  (8, .ireturn, 1)]
def mi_L_liveBehind : mi_T := ("DataflowLab$Liveness", ({ cls := "DataflowLab$Liveness", name := "liveBehind", desc := "(I)I" } : MethodName), prog_7_method_4_code, 2, (Option.some FieldType.int), [], tb_L_liveBehind)
theorem mo_L_liveBehind : mi_ok mi_L_liveBehind := by
  show ∀ q ∈ tb_L_liveBehind, decode prog_7_method_4_code q.1 = .ok q.2
  decide +kernel
theorem mw_L_liveBehind : mi_w mi_L_liveBehind 1 := ⟨tb_m 1452 (by decide +kernel) (by decide +kernel), tb_m 151 (by decide +kernel) rfl, ⟨by decide +kernel, by decide +kernel, by decide +kernel⟩, by decide +kernel⟩
theorem mv_L_liveBehind : mi_wV mi_L_liveBehind := ⟨tb_m 1450 (by decide +kernel) rfl, tb_m 1451 (by decide +kernel) rfl⟩
def tb_D_isLiveOut : List (Nat × Instr × Nat) := [(0, .aload_n 0, 1),
  (1, .iload_n 1, 1),
  (2, .invokevirtual 137, 3),
  (5, .iload_n 2, 1),
  (6, .invokestatic 199, 3),
  (9, .aload_n 0, 1),
  (10, .invokevirtual 225, 3),
  (13, .aload_n 0, 1),
  (14, .getfield 87, 3),
  (17, .iload_n 1, 1),
  (18, .invokevirtual 232, 3),
  (21, .invokevirtual 235, 3),
  (24, .i2l, 1),
  (25, .iload_n 2, 1),
  (26, .invokestatic 195, 3),
  (29, .ireturn, 1)]
def mi_D_isLiveOut : mi_T := ("DataflowLab", ({ cls := "DataflowLab", name := "isLiveOut", desc := "(II)Z" } : MethodName), prog_1_method_22_code, 3, (Option.some FieldType.boolean), [], tb_D_isLiveOut)
theorem mo_D_isLiveOut : mi_ok mi_D_isLiveOut := by
  show ∀ q ∈ tb_D_isLiveOut, decode prog_1_method_22_code q.1 = .ok q.2
  decide +kernel
theorem mw_D_isLiveOut : mi_w mi_D_isLiveOut 2 := ⟨tb_m 1447 (by decide +kernel) (by decide +kernel), tb_m 144 (by decide +kernel) rfl, ⟨by decide +kernel, by decide +kernel, by decide +kernel⟩, by decide +kernel⟩
theorem mv_D_isLiveOut : mi_wV mi_D_isLiveOut := ⟨tb_m 1445 (by decide +kernel) rfl, tb_m 1446 (by decide +kernel) rfl⟩
def tb_D_liveBefore : List (Nat × Instr × Nat) := [(0, .aload_n 0, 1),
  (1, .iload_n 1, 1),
  (2, .invokevirtual 144, 3),
  (5, .aload_n 0, 1),
  (6, .invokevirtual 225, 3),
  (9, .iload_n 1, 1),
  (10, .invokevirtual 229, 3),
  (13, .invokestatic 172, 3),
  (16, .ireturn, 1)]
def mi_D_liveBefore : mi_T := ("DataflowLab", ({ cls := "DataflowLab", name := "liveBefore", desc := "(I)I" } : MethodName), prog_1_method_23_code, 2, (Option.some FieldType.int), [], tb_D_liveBefore)
theorem mo_D_liveBefore : mi_ok mi_D_liveBefore := by
  show ∀ q ∈ tb_D_liveBefore, decode prog_1_method_23_code q.1 = .ok q.2
  decide +kernel
theorem mw_D_liveBefore : mi_w mi_D_liveBefore 1 := ⟨tb_m 1459 (by decide +kernel) (by decide +kernel), tb_m 144 (by decide +kernel) rfl, ⟨by decide +kernel, by decide +kernel, by decide +kernel⟩, by decide +kernel⟩
theorem mv_D_liveBefore : mi_wV mi_D_liveBefore := ⟨tb_m 1457 (by decide +kernel) rfl, tb_m 1458 (by decide +kernel) rfl⟩
def tb_L_isDeadAt : List (Nat × Instr × Nat) := [(0, .aload_n 1, 1),
  (1, .iload_n 2, 1),
  (2, .invokevirtual 41, 3),
  (5, .istore_n 3, 1),
  (6, .iload_n 3, 1),
  (7, .iconst (-1), 1),
  (8, .if_icmp .eq 23, 3),
  (11, .aload_n 0, 1),
  (12, .getfield 15, 3),
  (15, .iload_n 2, 1),
  (16, .invokestatic 37, 3),
  (19, .i2l, 1),
  (20, .iload_n 3, 1),
  (21, .invokestatic 45, 3),
  (24, .ifCond .ne 7, 3),
  (27, .iconst 1, 1),
  (28, .goto 4, 3),
  (31, .iconst 0, 1),
  (32, .ireturn, 1)]
def mi_L_isDeadAt : mi_T := ("DataflowLab$Liveness", ({ cls := "DataflowLab$Liveness", name := "isDeadAt", desc := "(LDataflowLab$Program;I)Z" } : MethodName), prog_7_method_5_code, 4, (Option.some FieldType.boolean), [], tb_L_isDeadAt)
theorem mo_L_isDeadAt : mi_ok mi_L_isDeadAt := by
  show ∀ q ∈ tb_L_isDeadAt, decode prog_7_method_5_code q.1 = .ok q.2
  decide +kernel
theorem mw_L_isDeadAt : mi_w mi_L_isDeadAt 2 := ⟨tb_m 768 (by decide +kernel) (by decide +kernel), tb_m 151 (by decide +kernel) rfl, ⟨by decide +kernel, by decide +kernel, by decide +kernel⟩, by decide +kernel⟩
theorem mv_L_isDeadAt : mi_wV mi_L_isDeadAt := ⟨tb_m 766 (by decide +kernel) rfl, tb_m 767 (by decide +kernel) rfl⟩
def tb_D_isDead : List (Nat × Instr × Nat) := [(0, .aload_n 0, 1),
  (1, .iload_n 1, 1),
  (2, .invokevirtual 144, 3),
  (5, .aload_n 0, 1),
  (6, .invokevirtual 225, 3),
  (9, .aload_n 0, 1),
  (10, .getfield 87, 3),
  (13, .iload_n 1, 1),
  (14, .invokevirtual 238, 3),
  (17, .ireturn, 1)]
def mi_D_isDead : mi_T := ("DataflowLab", ({ cls := "DataflowLab", name := "isDead", desc := "(I)Z" } : MethodName), prog_1_method_24_code, 2, (Option.some FieldType.boolean), [], tb_D_isDead)
theorem mo_D_isDead : mi_ok mi_D_isDead := by
  show ∀ q ∈ tb_D_isDead, decode prog_1_method_24_code q.1 = .ok q.2
  decide +kernel
theorem mw_D_isDead : mi_w mi_D_isDead 1 := ⟨tb_m 1466 (by decide +kernel) (by decide +kernel), tb_m 144 (by decide +kernel) rfl, ⟨by decide +kernel, by decide +kernel, by decide +kernel⟩, by decide +kernel⟩
theorem mv_D_isDead : mi_wV mi_D_isDead := ⟨tb_m 1464 (by decide +kernel) rfl, tb_m 1465 (by decide +kernel) rfl⟩
def tb_L_countDead : List (Nat × Instr × Nat) := [(0, .iconst 0, 1),
  (1, .istore_n 2, 1),
  (2, .iconst 0, 1),
  (3, .istore_n 3, 1),
  (4, .iload_n 3, 1),
  (5, .aload_n 1, 1),
  (6, .getfield 49, 3),
  (9, .if_icmp .ge 26, 3),
  (12, .iload_n 2, 1),
  (13, .aload_n 0, 1),
  (14, .aload_n 1, 1),
  (15, .iload_n 3, 1),
  (16, .invokevirtual 53, 3),
  (19, .ifCond .eq 7, 3),
  (22, .iconst 1, 1),
  (23, .goto 4, 3),
  (26, .iconst 0, 1),
  (27, .iadd, 1),
  (28, .istore_n 2, 1),
  (29, .iinc 3 1, 3),
  (32, .goto (-28), 3),
  (35, .iload_n 2, 1),
  (36, .ireturn, 1)]
def mi_L_countDead : mi_T := ("DataflowLab$Liveness", ({ cls := "DataflowLab$Liveness", name := "countDead", desc := "(LDataflowLab$Program;)I" } : MethodName), prog_7_method_6_code, 4, (Option.some FieldType.int), [], tb_L_countDead)
theorem mo_L_countDead : mi_ok mi_L_countDead := by
  show ∀ q ∈ tb_L_countDead, decode prog_7_method_6_code q.1 = .ok q.2
  decide +kernel
theorem mw_L_countDead : mi_w mi_L_countDead 1 := ⟨tb_m 764 (by decide +kernel) (by decide +kernel), tb_m 151 (by decide +kernel) rfl, ⟨by decide +kernel, by decide +kernel, by decide +kernel⟩, by decide +kernel⟩
theorem mv_L_countDead : mi_wV mi_L_countDead := ⟨tb_m 762 (by decide +kernel) rfl, tb_m 763 (by decide +kernel) rfl⟩
def tb_D_deadDefinitions : List (Nat × Instr × Nat) := [(0, .aload_n 0, 1),
  (1, .invokevirtual 225, 3),
  (4, .aload_n 0, 1),
  (5, .getfield 87, 3),
  (8, .invokevirtual 242, 3),
  (11, .ireturn, 1)]
def mi_D_deadDefinitions : mi_T := ("DataflowLab", ({ cls := "DataflowLab", name := "deadDefinitions", desc := "()I" } : MethodName), prog_1_method_25_code, 1, (Option.some FieldType.int), [], tb_D_deadDefinitions)
theorem mo_D_deadDefinitions : mi_ok mi_D_deadDefinitions := by
  show ∀ q ∈ tb_D_deadDefinitions, decode prog_1_method_25_code q.1 = .ok q.2
  decide +kernel
theorem mw_D_deadDefinitions : mi_w mi_D_deadDefinitions 0 := ⟨tb_m 693 (by decide +kernel) (by decide +kernel), tb_m 144 (by decide +kernel) rfl, ⟨by decide +kernel, by decide +kernel, by decide +kernel⟩, by decide +kernel⟩
theorem mv_D_deadDefinitions : mi_wV mi_D_deadDefinitions := ⟨tb_m 691 (by decide +kernel) rfl, tb_m 692 (by decide +kernel) rfl⟩
def tb_JM_max : List (Nat × Instr × Nat) := [(0, .iload_n 0, 1),
  (1, .iload_n 1, 1),
  (2, .if_icmp .lt 7, 3),
  (5, .iload_n 0, 1),
  (6, .goto 4, 3),
  (9, .iload_n 1, 1),
  (10, .ireturn, 1)]
def mi_JM_max : mi_T := ("java/lang/Math", ({ cls := "java/lang/Math", name := "max", desc := "(II)I" } : MethodName), prog_24_method_65_code, 2, (Option.some FieldType.int), [], tb_JM_max)
theorem mo_JM_max : mi_ok mi_JM_max := by
  show ∀ q ∈ tb_JM_max, decode prog_24_method_65_code q.1 = .ok q.2
  decide +kernel
theorem mw_JM_max : mi_w mi_JM_max 2 := ⟨tb_m 788 (by decide +kernel) (by decide +kernel), tb_m 159 (by decide +kernel) rfl, ⟨by decide +kernel, by decide +kernel, by decide +kernel⟩, by decide +kernel⟩
theorem mv_JM_max : Cond.static (mi_y mi_JM_max) ∈ tb_G := tb_m 787 (by decide +kernel) rfl
def tb_L_largestSet : List (Nat × Instr × Nat) := [(0, .iconst 0, 1),
  (1, .istore_n 1, 1),
  (2, .iconst 0, 1),
  (3, .istore_n 2, 1),
  (4, .iload_n 2, 1),
  (5, .bipush 52, 2),
  (7, .if_icmp .ge 25, 3),
  (10, .iload_n 1, 1),
  (11, .aload_n 0, 1),
  (12, .getfield 9, 3),
  (15, .iload_n 2, 1),
  (16, .invokestatic 37, 3),
  (19, .invokestatic 56, 3),
  (22, .invokestatic 61, 3),
  (25, .istore_n 1, 1),
  (26, .iinc 2 1, 3),
  (29, .goto (-25), 3),
  (32, .iload_n 1, 1),
  (33, .ireturn, 1)]
def mi_L_largestSet : mi_T := ("DataflowLab$Liveness", ({ cls := "DataflowLab$Liveness", name := "largestSet", desc := "()I" } : MethodName), prog_7_method_8_code, 3, (Option.some FieldType.int), [], tb_L_largestSet)
theorem mo_L_largestSet : mi_ok mi_L_largestSet := by
  show ∀ q ∈ tb_L_largestSet, decode prog_7_method_8_code q.1 = .ok q.2
  decide +kernel
theorem mw_L_largestSet : mi_w mi_L_largestSet 0 := ⟨tb_m 779 (by decide +kernel) (by decide +kernel), tb_m 151 (by decide +kernel) rfl, ⟨by decide +kernel, by decide +kernel, by decide +kernel⟩, by decide +kernel⟩
theorem mv_L_largestSet : mi_wV mi_L_largestSet := ⟨tb_m 777 (by decide +kernel) rfl, tb_m 778 (by decide +kernel) rfl⟩
def tb_D_pressure : List (Nat × Instr × Nat) := [(0, .aload_n 0, 1),
  (1, .invokevirtual 225, 3),
  (4, .invokevirtual 246, 3),
  (7, .ireturn, 1)]
def mi_D_pressure : mi_T := ("DataflowLab", ({ cls := "DataflowLab", name := "pressure", desc := "()I" } : MethodName), prog_1_method_26_code, 1, (Option.some FieldType.int), [], tb_D_pressure)
theorem mo_D_pressure : mi_ok mi_D_pressure := by
  show ∀ q ∈ tb_D_pressure, decode prog_1_method_26_code q.1 = .ok q.2
  decide +kernel
theorem mw_D_pressure : mi_w mi_D_pressure 0 := ⟨tb_m 775 (by decide +kernel) (by decide +kernel), tb_m 144 (by decide +kernel) rfl, ⟨by decide +kernel, by decide +kernel, by decide +kernel⟩, by decide +kernel⟩
theorem mv_D_pressure : mi_wV mi_D_pressure := ⟨tb_m 773 (by decide +kernel) rfl, tb_m 774 (by decide +kernel) rfl⟩
def tb_L_clashes : List (Nat × Instr × Nat) := [(0, .iconst 0, 1),
  (1, .istore 4, 2),
  (3, .iload 4, 2),
  (5, .aload_n 1, 1),
  (6, .getfield 49, 3),
  (9, .if_icmp .ge 71, 3),
  (12, .aload_n 1, 1),
  (13, .iload 4, 2),
  (15, .invokevirtual 67, 3),
  (18, .iconst 1, 1),
  (19, .if_icmp .ne 18, 3),
  (22, .aload_n 1, 1),
  (23, .iload 4, 2),
  (25, .iconst 0, 1),
  (26, .invokevirtual 70, 3),
  (29, .iload_n 3, 1),
  (30, .if_icmp .ne 7, 3),
  (33, .iconst 1, 1),
  (34, .goto 4, 3),
  (37, .iconst 0, 1),
  (38, .istore 5, 2),
  (40, .aload_n 1, 1),
  (41, .iload 4, 2),
  (43, .invokevirtual 41, 3),
  (46, .iload_n 2, 1),
  (47, .if_icmp .ne 27, 3),
  (50, .iload 5, 2),
  (52, .ifCond .ne 22, 3),
  (55, .aload_n 0, 1),
  (56, .getfield 15, 3),
  (59, .iload 4, 2),
  (61, .invokestatic 37, 3),
  (64, .i2l, 1),
  (65, .iload_n 3, 1),
  (66, .invokestatic 45, 3),
  (69, .ifCond .eq 5, 3),
  (72, .iconst 1, 1),
  (73, .ireturn, 1),
  (74, .iinc 4 1, 3),
  (77, .goto (-74), 3),
  (80, .iconst 0, 1),
  (81, .ireturn, 1)]
def mi_L_clashes : mi_T := ("DataflowLab$Liveness", ({ cls := "DataflowLab$Liveness", name := "clashes", desc := "(LDataflowLab$Program;II)Z" } : MethodName), prog_7_method_9_code, 6, (Option.some FieldType.boolean), [], tb_L_clashes)
theorem mo_L_clashes : mi_ok mi_L_clashes := by
  show ∀ q ∈ tb_L_clashes, decode prog_7_method_9_code q.1 = .ok q.2
  decide +kernel
theorem mw_L_clashes : mi_w mi_L_clashes 3 := ⟨tb_m 1477 (by decide +kernel) (by decide +kernel), tb_m 151 (by decide +kernel) rfl, ⟨by decide +kernel, by decide +kernel, by decide +kernel⟩, by decide +kernel⟩
theorem mv_L_clashes : mi_wV mi_L_clashes := ⟨tb_m 1475 (by decide +kernel) rfl, tb_m 1476 (by decide +kernel) rfl⟩
def tb_D_interfere : List (Nat × Instr × Nat) := [(0, .iload_n 1, 1),
  (1, .invokestatic 199, 3),
  (4, .iload_n 2, 1),
  (5, .invokestatic 199, 3),
  (8, .iload_n 1, 1),
  (9, .iload_n 2, 1),
  (10, .if_icmp .ne 5, 3),
  (13, .iconst 0, 1),
  (14, .ireturn, 1),
  (15, .aload_n 0, 1),
  (16, .invokevirtual 225, 3),
  (19, .aload_n 0, 1),
  (20, .getfield 87, 3),
  (23, .iload_n 1, 1),
  (24, .iload_n 2, 1),
  (25, .invokevirtual 249, 3),
  (28, .ifCond .ne 19, 3),
  (31, .aload_n 0, 1),
  (32, .invokevirtual 225, 3),
  (35, .aload_n 0, 1),
  (36, .getfield 87, 3),
  (39, .iload_n 2, 1),
  (40, .iload_n 1, 1),
  (41, .invokevirtual 249, 3),
  (44, .ifCond .eq 7, 3),
  (47, .iconst 1, 1),
  (48, .goto 4, 3),
  (51, .iconst 0, 1),
  (52, .ireturn, 1)]
def mi_D_interfere : mi_T := ("DataflowLab", ({ cls := "DataflowLab", name := "interfere", desc := "(II)Z" } : MethodName), prog_1_method_27_code, 3, (Option.some FieldType.boolean), [], tb_D_interfere)
theorem mo_D_interfere : mi_ok mi_D_interfere := by
  show ∀ q ∈ tb_D_interfere, decode prog_1_method_27_code q.1 = .ok q.2
  decide +kernel
theorem mw_D_interfere : mi_w mi_D_interfere 2 := ⟨tb_m 1473 (by decide +kernel) (by decide +kernel), tb_m 144 (by decide +kernel) rfl, ⟨by decide +kernel, by decide +kernel, by decide +kernel⟩, by decide +kernel⟩
theorem mv_D_interfere : mi_wV mi_D_interfere := ⟨tb_m 1471 (by decide +kernel) rfl, tb_m 1472 (by decide +kernel) rfl⟩
def tb_P_word : List (Nat × Instr × Nat) := [(0, .aload_n 0, 1),
  (1, .getfield 9, 3),
  (4, .iload_n 1, 1),
  (5, .invokestatic 41, 3),
  (8, .ireturn, 1)]
def mi_P_word : mi_T := ("DataflowLab$Program", ({ cls := "DataflowLab$Program", name := "word", desc := "(I)I" } : MethodName), prog_10_method_5_code, 2, (Option.some FieldType.int), [], tb_P_word)
theorem mo_P_word : mi_ok mi_P_word := by
  show ∀ q ∈ tb_P_word, decode prog_10_method_5_code q.1 = .ok q.2
  decide +kernel
theorem mw_P_word : mi_w mi_P_word 1 := ⟨tb_m 859 (by decide +kernel) (by decide +kernel), tb_m 145 (by decide +kernel) rfl, ⟨by decide +kernel, by decide +kernel, by decide +kernel⟩, by decide +kernel⟩
theorem mv_P_word : mi_wV mi_P_word := ⟨tb_m 857 (by decide +kernel) rfl, tb_m 858 (by decide +kernel) rfl⟩
def tb_O_expression : List (Nat × Instr × Nat) := [(0, .iload_n 0, 1),
  (1, .iconst 5, 1),
  (2, .iushr, 1),
  (3, .sipush 255, 3),
  (6, .iand, 1),
  (7, .ireturn, 1)]
def mi_O_expression : mi_T := ("DataflowLab$Code", ({ cls := "DataflowLab$Code", name := "expression", desc := "(I)I" } : MethodName), prog_3_method_10_code, 1, (Option.some FieldType.int), [], tb_O_expression)
theorem mo_O_expression : mi_ok mi_O_expression := by
  show ∀ q ∈ tb_O_expression, decode prog_3_method_10_code q.1 = .ok q.2
  decide +kernel
theorem mw_O_expression : mi_w mi_O_expression 1 := ⟨tb_m 862 (by decide +kernel) (by decide +kernel), tb_m 160 (by decide +kernel) rfl, ⟨by decide +kernel, by decide +kernel, by decide +kernel⟩, by decide +kernel⟩
theorem mv_O_expression : Cond.static (mi_y mi_O_expression) ∈ tb_G := tb_m 861 (by decide +kernel) rfl
def tb_A_firstWith : List (Nat × Instr × Nat) := [(0, .iconst 0, 1),
  (1, .istore_n 2, 1),
  (2, .iload_n 2, 1),
  (3, .aload_n 0, 1),
  (4, .getfield 63, 3),
  (7, .if_icmp .ge 32, 3),
  (10, .aload_n 0, 1),
  (11, .iload_n 2, 1),
  (12, .invokevirtual 70, 3),
  (15, .iconst 2, 1),
  (16, .if_icmp .ne 17, 3),
  (19, .aload_n 0, 1),
  (20, .iload_n 2, 1),
  (21, .invokevirtual 87, 3),
  (24, .invokestatic 90, 3),
  (27, .iload_n 1, 1),
  (28, .if_icmp .ne 5, 3),
  (31, .iload_n 2, 1),
  (32, .ireturn, 1),
  (33, .iinc 2 1, 3),
  (36, .goto (-34), 3),
  (39, .iconst (-1), 1),
  (40, .ireturn, 1)]
def mi_A_firstWith : mi_T := ("DataflowLab$Available", ({ cls := "DataflowLab$Available", name := "firstWith", desc := "(LDataflowLab$Program;I)I" } : MethodName), prog_2_method_8_code, 3, (Option.some FieldType.int), [], tb_A_firstWith)
theorem mo_A_firstWith : mi_ok mi_A_firstWith := by
  show ∀ q ∈ tb_A_firstWith, decode prog_2_method_8_code q.1 = .ok q.2
  decide +kernel
theorem mw_A_firstWith : mi_w mi_A_firstWith 2 := ⟨tb_m 865 (by decide +kernel) (by decide +kernel), tb_m 152 (by decide +kernel) rfl, ⟨by decide +kernel, by decide +kernel, by decide +kernel⟩, by decide +kernel⟩
theorem mv_A_firstWith : Cond.static (mi_y mi_A_firstWith) ∈ tb_G := tb_m 864 (by decide +kernel) rfl
def tb_A_noteOperand : List (Nat × Instr × Nat) := [(0, .aload_n 0, 1),
  (1, .getfield 15, 3),
  (4, .iload_n 1, 1),
  (5, .aload_n 0, 1),
  (6, .getfield 15, 3),
  (9, .iload_n 1, 1),
  (10, .invokestatic 59, 3),
  (13, .lconst 1, 1),
  (14, .iload_n 2, 1),
  (15, .lshl, 1),
  (16, .lor, 1),
  (17, .invokestatic 43, 3),
  (20, .return_, 1)]
def mi_A_noteOperand : mi_T := ("DataflowLab$Available", ({ cls := "DataflowLab$Available", name := "noteOperand", desc := "(II)V" } : MethodName), prog_2_method_9_code, 3, (Option.none : Option FieldType), [], tb_A_noteOperand)
theorem mo_A_noteOperand : mi_ok mi_A_noteOperand := by
  show ∀ q ∈ tb_A_noteOperand, decode prog_2_method_9_code q.1 = .ok q.2
  decide +kernel
theorem mw_A_noteOperand : mi_w mi_A_noteOperand 2 := ⟨tb_m 871 (by decide +kernel) (by decide +kernel), tb_m 152 (by decide +kernel) rfl, ⟨by decide +kernel, by decide +kernel, by decide +kernel⟩, by decide +kernel⟩
theorem mv_A_noteOperand : mi_wV mi_A_noteOperand := ⟨tb_m 870 (by decide +kernel) rfl, tb_m 25 (by decide +kernel) rfl⟩
def tb_A_nameExpressions : List (Nat × Instr × Nat) := [(0, .aload_n 0, 1),
  (1, .getfield 9, 3),
  (4, .iconst (-1), 1),
  (5, .invokestatic 80, 3),
  (8, .aload_n 0, 1),
  (9, .getfield 15, 3),
  (12, .lconst 0, 1),
  (13, .invokestatic 84, 3),
  (16, .iconst 0, 1),
  (17, .istore_n 2, 1),
  (18, .iload_n 2, 1),
  (19, .aload_n 1, 1),
  (20, .getfield 63, 3),
  (23, .if_icmp .ge 62, 3),
  (26, .aload_n 1, 1),
  (27, .iload_n 2, 1),
  (28, .invokevirtual 70, 3),
  (31, .iconst 2, 1),
  (32, .if_icmp .ne 47, 3),
  (35, .aload_n 1, 1),
  (36, .aload_n 1, 1),
  (37, .iload_n 2, 1),
  (38, .invokevirtual 87, 3),
  (41, .invokestatic 90, 3),
  (44, .invokestatic 95, 3),
  (47, .istore_n 3, 1),
  (48, .aload_n 0, 1),
  (49, .getfield 9, 3),
  (52, .iload_n 2, 1),
  (53, .iload_n 3, 1),
  (54, .invokestatic 99, 3),
  (57, .aload_n 0, 1),
  (58, .aload_n 1, 1),
  (59, .iload_n 2, 1),
  (60, .iconst 0, 1),
  (61, .invokevirtual 102, 3),
  (64, .iload_n 3, 1),
  (65, .invokevirtual 106, 3),
  (68, .aload_n 0, 1),
  (69, .aload_n 1, 1),
  (70, .iload_n 2, 1),
  (71, .iconst 1, 1),
  (72, .invokevirtual 102, 3),
  (75, .iload_n 3, 1),
  (76, .invokevirtual 106, 3),
  (79, .iinc 2 1, 3),
  (82, .goto (-64), 3),
  (85, .return_, 1)]
def mi_A_nameExpressions : mi_T := ("DataflowLab$Available", ({ cls := "DataflowLab$Available", name := "nameExpressions", desc := "(LDataflowLab$Program;)V" } : MethodName), prog_2_method_7_code, 4, (Option.none : Option FieldType), [], tb_A_nameExpressions)
theorem mo_A_nameExpressions : mi_ok mi_A_nameExpressions := by
  show ∀ q ∈ tb_A_nameExpressions, decode prog_2_method_7_code q.1 = .ok q.2
  decide +kernel
theorem mw_A_nameExpressions : mi_w mi_A_nameExpressions 1 := ⟨tb_m 850 (by decide +kernel) (by decide +kernel), tb_m 152 (by decide +kernel) rfl, ⟨by decide +kernel, by decide +kernel, by decide +kernel⟩, by decide +kernel⟩
theorem mv_A_nameExpressions : mi_wV mi_A_nameExpressions := ⟨tb_m 849 (by decide +kernel) rfl, tb_m 24 (by decide +kernel) rfl⟩
def tb_A_flow : List (Nat × Instr × Nat) := [(0, .aload_n 0, 1),
  (1, .getfield 19, 3),
  (4, .iload_n 2, 1),
  (5, .invokestatic 59, 3),
  (8, .lstore_n 3, 1),
  (9, .aload_n 1, 1),
  (10, .iload_n 2, 1),
  (11, .invokevirtual 70, 3),
  (14, .iconst 2, 1),
  (15, .if_icmp .ne 16, 3),
  (18, .lload_n 3, 1),
  (19, .lconst 1, 1),
  (20, .aload_n 0, 1),
  (21, .getfield 9, 3),
  (24, .iload_n 2, 1),
  (25, .invokestatic 67, 3),
  (28, .lshl, 1),
  (29, .lor, 1),
  (30, .lstore_n 3, 1),
  (31, .aload_n 1, 1),
  (32, .iload_n 2, 1),
  (33, .invokevirtual 110, 3),
  (36, .istore 5, 2),
  (38, .iload 5, 2),
  (40, .iconst (-1), 1),
  (41, .if_icmp .eq 19, 3),
  (44, .lload_n 3, 1),
  (45, .aload_n 0, 1),
  (46, .getfield 15, 3),
  (49, .iload 5, 2),
  (51, .invokestatic 59, 3),
  (54, .ldc2_w 41, 3),
  (57, .lxor, 1),
  (58, .land, 1),
  (59, .lstore_n 3, 1),
  (60, .iconst 0, 1),
  (61, .istore 6, 2),
  (63, .iconst 0, 1),
  (64, .istore 7, 2),
  (66, .iload 7, 2),
  (68, .aload_n 1, 1),
  (69, .iload_n 2, 1),
  (70, .invokevirtual 113, 3),
  (73, .if_icmp .ge 69, 3),
  (76, .aload_n 1, 1),
  (77, .iload_n 2, 1),
  (78, .iload 7, 2),
  (80, .invokevirtual 116, 3),
  (83, .istore 8, 2),
  (85, .aload_n 0, 1),
  (86, .getfield 19, 3),
  (89, .iload 8, 2),
  (91, .invokestatic 59, 3),
  (94, .lload_n 3, 1),
  (95, .land, 1),
  (96, .lstore 9, 2),
  (98, .iload 6, 2),
  (100, .ifCond .ne 18, 3),
  (103, .lload 9, 2),
  (105, .aload_n 0, 1),
  (106, .getfield 19, 3),
  (109, .iload 8, 2),
  (111, .invokestatic 59, 3),
  (114, .lcmp, 1),
  (115, .ifCond .eq 7, 3),
  (118, .iconst 1, 1),
  (119, .goto 4, 3),
  (122, .iconst 0, 1),
  (123, .istore 6, 2),
  (125, .aload_n 0, 1),
  (126, .getfield 19, 3),
  (129, .iload 8, 2),
  (131, .lload 9, 2),
  (133, .invokestatic 43, 3),
  (136, .iinc 7 1, 3),
  (139, .goto (-73), 3),
  (142, .iload 6, 2),
  (144, .ireturn, 1)]
def mi_A_flow : mi_T := ("DataflowLab$Available", ({ cls := "DataflowLab$Available", name := "flow", desc := "(LDataflowLab$Program;I)Z" } : MethodName), prog_2_method_10_code, 11, (Option.some FieldType.boolean), [], tb_A_flow)
theorem mo_A_flow : mi_ok mi_A_flow := by
  show ∀ q ∈ tb_A_flow, decode prog_2_method_10_code q.1 = .ok q.2
  decide +kernel
theorem mw_A_flow : mi_w mi_A_flow 2 := ⟨tb_m 887 (by decide +kernel) (by decide +kernel), tb_m 152 (by decide +kernel) rfl, ⟨by decide +kernel, by decide +kernel, by decide +kernel⟩, by decide +kernel⟩
theorem mv_A_flow : mi_wV mi_A_flow := ⟨tb_m 886 (by decide +kernel) rfl, tb_m 26 (by decide +kernel) rfl⟩
def tb_A_analyse : List (Nat × Instr × Nat) := [(0, .aload_n 0, 1),
  (1, .aload_n 1, 1),
  (2, .invokevirtual 22, 3),
  (5, .iconst 0, 1),
  (6, .istore_n 3, 1),
  (7, .iload_n 3, 1),
  (8, .bipush 52, 2),
  (10, .if_icmp .ge 56, 3),
  (13, .aload_n 1, 1),
  (14, .iload_n 3, 1),
  (15, .invokevirtual 26, 3),
  (18, .ifCond .eq 19, 3),
  (21, .aload_n 2, 1),
  (22, .aload_n 1, 1),
  (23, .iload_n 3, 1),
  (24, .invokevirtual 32, 3),
  (27, .invokevirtual 36, 3),
  (30, .ifCond .eq 7, 3),
  (33, .iconst 1, 1),
  (34, .goto 4, 3),
  (37, .iconst 0, 1),
  (38, .istore 4, 2),
  (40, .aload_n 0, 1),
  (41, .getfield 19, 3),
  (44, .iload_n 3, 1),
  (45, .iload 4, 2),
  (47, .ifCond .eq 9, 3),
  (50, .ldc2_w 41, 3),
  (53, .goto 4, 3),
  (56, .lconst 0, 1),
  (57, .invokestatic 43, 3),
  (60, .iinc 3 1, 3),
  (63, .goto (-56), 3),
  (66, .aload_n 0, 1),
  (67, .getfield 19, 3),
  (70, .aload_n 1, 1),
  (71, .iconst 0, 1),
  (72, .invokevirtual 47, 3),
  (75, .lconst 0, 1),
  (76, .invokestatic 43, 3),
  (79, .iconst 1, 1),
  (80, .istore_n 3, 1),
  (81, .iconst 0, 1),
  (82, .istore 4, 2),
  (84, .iload_n 3, 1),
  (85, .ifCond .eq 68, 3),
  (88, .iload 4, 2),
  (90, .ldc 50, 2),
  (92, .if_icmp .ge 61, 3),
  (95, .iconst 0, 1),
  (96, .istore_n 3, 1),
  (97, .iconst 0, 1),
  (98, .istore 5, 2),
  (100, .iload 5, 2),
  (102, .bipush 52, 2),
  (104, .if_icmp .ge 43, 3),
  (107, .aload_n 1, 1),
  (108, .iload 5, 2),
  (110, .invokevirtual 26, 3),
  (113, .ifCond .eq 28, 3),
  (116, .aload_n 2, 1),
  (117, .aload_n 1, 1),
  (118, .iload 5, 2),
  (120, .invokevirtual 32, 3),
  (123, .invokevirtual 36, 3),
  (126, .ifCond .eq 15, 3),
  (129, .aload_n 0, 1),
  (130, .aload_n 1, 1),
  (131, .iload 5, 2),
  (133, .invokevirtual 51, 3),
  (136, .ifCond .eq 5, 3),
  (139, .iconst 1, 1),
  (140, .istore_n 3, 1),
  (141, .iinc 5 1, 3),
  (144, .goto (-44), 3),
  (147, .iinc 4 1, 3),
  (150, .goto (-66), 3),
  (153, .aload_n 0, 1),
  (154, .iconst 1, 1),
  (155, .putfield 55, 3),
  (158, .return_, 1)]
def mi_A_analyse : mi_T := ("DataflowLab$Available", ({ cls := "DataflowLab$Available", name := "analyse", desc := "(LDataflowLab$Program;LDataflowLab$Graph;)V" } : MethodName), prog_2_method_2_code, 6, (Option.none : Option FieldType), [], tb_A_analyse)
theorem mo_A_analyse : mi_ok mi_A_analyse := by
  show ∀ q ∈ tb_A_analyse, decode prog_2_method_2_code q.1 = .ok q.2
  decide +kernel
theorem mw_A_analyse : mi_w mi_A_analyse 2 := ⟨tb_m 846 (by decide +kernel) (by decide +kernel), tb_m 152 (by decide +kernel) rfl, ⟨by decide +kernel, by decide +kernel, by decide +kernel⟩, by decide +kernel⟩
theorem mv_A_analyse : mi_wV mi_A_analyse := ⟨tb_m 844 (by decide +kernel) rfl, tb_m 845 (by decide +kernel) rfl⟩
def tb_D_available : List (Nat × Instr × Nat) := [(0, .aload_n 0, 1),
  (1, .getfield 65, 3),
  (4, .getfield 476, 3),
  (7, .ifCond .ne 18, 3),
  (10, .aload_n 0, 1),
  (11, .getfield 65, 3),
  (14, .aload_n 0, 1),
  (15, .getfield 87, 3),
  (18, .aload_n 0, 1),
  (19, .invokevirtual 165, 3),
  (22, .invokevirtual 483, 3),
  (25, .aload_n 0, 1),
  (26, .getfield 65, 3),
  (29, .areturn, 1)]
def mi_D_available : mi_T := ("DataflowLab", ({ cls := "DataflowLab", name := "available", desc := "()LDataflowLab$Available;" } : MethodName), prog_1_method_78_code, 1, (Option.some (FieldType.object "DataflowLab$Available")), [], tb_D_available)
theorem mo_D_available : mi_ok mi_D_available := by
  show ∀ q ∈ tb_D_available, decode prog_1_method_78_code q.1 = .ok q.2
  decide +kernel
theorem mw_D_available : mi_w mi_D_available 0 := ⟨tb_m 796 (by decide +kernel) (by decide +kernel), tb_m 144 (by decide +kernel) rfl, ⟨by decide +kernel, by decide +kernel, by decide +kernel⟩, by decide +kernel⟩
theorem mv_D_available : mi_wV mi_D_available := ⟨tb_m 795 (by decide +kernel) rfl, tb_m 16 (by decide +kernel) rfl⟩
def tb_A_countNames : List (Nat × Instr × Nat) := [(0, .iconst 0, 1),
  (1, .istore_n 2, 1),
  (2, .iconst 0, 1),
  (3, .istore_n 3, 1),
  (4, .iload_n 3, 1),
  (5, .aload_n 1, 1),
  (6, .getfield 63, 3),
  (9, .if_icmp .ge 29, 3),
  (12, .iload_n 2, 1),
  (13, .aload_n 0, 1),
  (14, .getfield 9, 3),
  (17, .iload_n 3, 1),
  (18, .invokestatic 67, 3),
  (21, .iload_n 3, 1),
  (22, .if_icmp .ne 7, 3),
  (25, .iconst 1, 1),
  (26, .goto 4, 3),
  (29, .iconst 0, 1),
  (30, .iadd, 1),
  (31, .istore_n 2, 1),
  (32, .iinc 3 1, 3),
  (35, .goto (-31), 3),
  (38, .iload_n 2, 1),
  (39, .ireturn, 1)]
def mi_A_countNames : mi_T := ("DataflowLab$Available", ({ cls := "DataflowLab$Available", name := "countNames", desc := "(LDataflowLab$Program;)I" } : MethodName), prog_2_method_4_code, 4, (Option.some FieldType.int), [], tb_A_countNames)
theorem mo_A_countNames : mi_ok mi_A_countNames := by
  show ∀ q ∈ tb_A_countNames, decode prog_2_method_4_code q.1 = .ok q.2
  decide +kernel
theorem mw_A_countNames : mi_w mi_A_countNames 1 := ⟨tb_m 895 (by decide +kernel) (by decide +kernel), tb_m 152 (by decide +kernel) rfl, ⟨by decide +kernel, by decide +kernel, by decide +kernel⟩, by decide +kernel⟩
theorem mv_A_countNames : mi_wV mi_A_countNames := ⟨tb_m 893 (by decide +kernel) rfl, tb_m 894 (by decide +kernel) rfl⟩
def tb_D_expressionCount : List (Nat × Instr × Nat) := [(0, .aload_n 0, 1),
  (1, .invokevirtual 253, 3),
  (4, .aload_n 0, 1),
  (5, .getfield 87, 3),
  (8, .invokevirtual 257, 3),
  (11, .ireturn, 1)]
def mi_D_expressionCount : mi_T := ("DataflowLab", ({ cls := "DataflowLab", name := "expressionCount", desc := "()I" } : MethodName), prog_1_method_28_code, 1, (Option.some FieldType.int), [], tb_D_expressionCount)
theorem mo_D_expressionCount : mi_ok mi_D_expressionCount := by
  show ∀ q ∈ tb_D_expressionCount, decode prog_1_method_28_code q.1 = .ok q.2
  decide +kernel
theorem mw_D_expressionCount : mi_w mi_D_expressionCount 0 := ⟨tb_m 792 (by decide +kernel) (by decide +kernel), tb_m 144 (by decide +kernel) rfl, ⟨by decide +kernel, by decide +kernel, by decide +kernel⟩, by decide +kernel⟩
theorem mv_D_expressionCount : mi_wV mi_D_expressionCount := ⟨tb_m 790 (by decide +kernel) rfl, tb_m 791 (by decide +kernel) rfl⟩
def tb_A_isRedundantAt : List (Nat × Instr × Nat) := [(0, .aload_n 1, 1),
  (1, .iload_n 2, 1),
  (2, .invokevirtual 70, 3),
  (5, .iconst 2, 1),
  (6, .if_icmp .ne 29, 3),
  (9, .aload_n 0, 1),
  (10, .getfield 19, 3),
  (13, .iload_n 2, 1),
  (14, .invokestatic 59, 3),
  (17, .aload_n 0, 1),
  (18, .getfield 9, 3),
  (21, .iload_n 2, 1),
  (22, .invokestatic 67, 3),
  (25, .invokestatic 73, 3),
  (28, .ifCond .eq 7, 3),
  (31, .iconst 1, 1),
  (32, .goto 4, 3),
  (35, .iconst 0, 1),
  (36, .ireturn, 1)]
def mi_A_isRedundantAt : mi_T := ("DataflowLab$Available", ({ cls := "DataflowLab$Available", name := "isRedundantAt", desc := "(LDataflowLab$Program;I)Z" } : MethodName), prog_2_method_5_code, 3, (Option.some FieldType.boolean), [], tb_A_isRedundantAt)
theorem mo_A_isRedundantAt : mi_ok mi_A_isRedundantAt := by
  show ∀ q ∈ tb_A_isRedundantAt, decode prog_2_method_5_code q.1 = .ok q.2
  decide +kernel
theorem mw_A_isRedundantAt : mi_w mi_A_isRedundantAt 2 := ⟨tb_m 907 (by decide +kernel) (by decide +kernel), tb_m 152 (by decide +kernel) rfl, ⟨by decide +kernel, by decide +kernel, by decide +kernel⟩, by decide +kernel⟩
theorem mv_A_isRedundantAt : mi_wV mi_A_isRedundantAt := ⟨tb_m 905 (by decide +kernel) rfl, tb_m 906 (by decide +kernel) rfl⟩
def tb_D_isRedundant : List (Nat × Instr × Nat) := [(0, .aload_n 0, 1),
  (1, .iload_n 1, 1),
  (2, .invokevirtual 144, 3),
  (5, .aload_n 0, 1),
  (6, .invokevirtual 253, 3),
  (9, .aload_n 0, 1),
  (10, .getfield 87, 3),
  (13, .iload_n 1, 1),
  (14, .invokevirtual 260, 3),
  (17, .ireturn, 1)]
def mi_D_isRedundant : mi_T := ("DataflowLab", ({ cls := "DataflowLab", name := "isRedundant", desc := "(I)Z" } : MethodName), prog_1_method_29_code, 2, (Option.some FieldType.boolean), [], tb_D_isRedundant)
theorem mo_D_isRedundant : mi_ok mi_D_isRedundant := by
  show ∀ q ∈ tb_D_isRedundant, decode prog_1_method_29_code q.1 = .ok q.2
  decide +kernel
theorem mw_D_isRedundant : mi_w mi_D_isRedundant 1 := ⟨tb_m 1486 (by decide +kernel) (by decide +kernel), tb_m 144 (by decide +kernel) rfl, ⟨by decide +kernel, by decide +kernel, by decide +kernel⟩, by decide +kernel⟩
theorem mv_D_isRedundant : mi_wV mi_D_isRedundant := ⟨tb_m 1484 (by decide +kernel) rfl, tb_m 1485 (by decide +kernel) rfl⟩
def tb_A_countRedundant : List (Nat × Instr × Nat) := [(0, .iconst 0, 1),
  (1, .istore_n 2, 1),
  (2, .iconst 0, 1),
  (3, .istore_n 3, 1),
  (4, .iload_n 3, 1),
  (5, .aload_n 1, 1),
  (6, .getfield 63, 3),
  (9, .if_icmp .ge 26, 3),
  (12, .iload_n 2, 1),
  (13, .aload_n 0, 1),
  (14, .aload_n 1, 1),
  (15, .iload_n 3, 1),
  (16, .invokevirtual 77, 3),
  (19, .ifCond .eq 7, 3),
  (22, .iconst 1, 1),
  (23, .goto 4, 3),
  (26, .iconst 0, 1),
  (27, .iadd, 1),
  (28, .istore_n 2, 1),
  (29, .iinc 3 1, 3),
  (32, .goto (-28), 3),
  (35, .iload_n 2, 1),
  (36, .ireturn, 1)]
def mi_A_countRedundant : mi_T := ("DataflowLab$Available", ({ cls := "DataflowLab$Available", name := "countRedundant", desc := "(LDataflowLab$Program;)I" } : MethodName), prog_2_method_6_code, 4, (Option.some FieldType.int), [], tb_A_countRedundant)
theorem mo_A_countRedundant : mi_ok mi_A_countRedundant := by
  show ∀ q ∈ tb_A_countRedundant, decode prog_2_method_6_code q.1 = .ok q.2
  decide +kernel
theorem mw_A_countRedundant : mi_w mi_A_countRedundant 1 := ⟨tb_m 903 (by decide +kernel) (by decide +kernel), tb_m 152 (by decide +kernel) rfl, ⟨by decide +kernel, by decide +kernel, by decide +kernel⟩, by decide +kernel⟩
theorem mv_A_countRedundant : mi_wV mi_A_countRedundant := ⟨tb_m 901 (by decide +kernel) rfl, tb_m 902 (by decide +kernel) rfl⟩
def tb_D_redundantCount : List (Nat × Instr × Nat) := [(0, .aload_n 0, 1),
  (1, .invokevirtual 253, 3),
  (4, .aload_n 0, 1),
  (5, .getfield 87, 3),
  (8, .invokevirtual 263, 3),
  (11, .ireturn, 1)]
def mi_D_redundantCount : mi_T := ("DataflowLab", ({ cls := "DataflowLab", name := "redundantCount", desc := "()I" } : MethodName), prog_1_method_30_code, 1, (Option.some FieldType.int), [], tb_D_redundantCount)
theorem mo_D_redundantCount : mi_ok mi_D_redundantCount := by
  show ∀ q ∈ tb_D_redundantCount, decode prog_1_method_30_code q.1 = .ok q.2
  decide +kernel
theorem mw_D_redundantCount : mi_w mi_D_redundantCount 0 := ⟨tb_m 899 (by decide +kernel) (by decide +kernel), tb_m 144 (by decide +kernel) rfl, ⟨by decide +kernel, by decide +kernel, by decide +kernel⟩, by decide +kernel⟩
theorem mv_D_redundantCount : mi_wV mi_D_redundantCount := ⟨tb_m 897 (by decide +kernel) rfl, tb_m 898 (by decide +kernel) rfl⟩
def tb_A_expressionsAt : List (Nat × Instr × Nat) := [(0, .aload_n 0, 1),
  (1, .getfield 19, 3),
  (4, .iload_n 1, 1),
  (5, .invokestatic 59, 3),
  (8, .lreturn, 1)]
def mi_A_expressionsAt : mi_T := ("DataflowLab$Available", ({ cls := "DataflowLab$Available", name := "expressionsAt", desc := "(I)J" } : MethodName), prog_2_method_3_code, 2, (Option.some FieldType.long), [], tb_A_expressionsAt)
theorem mo_A_expressionsAt : mi_ok mi_A_expressionsAt := by
  show ∀ q ∈ tb_A_expressionsAt, decode prog_2_method_3_code q.1 = .ok q.2
  decide +kernel
theorem mw_A_expressionsAt : mi_w mi_A_expressionsAt 1 := ⟨tb_m 1498 (by decide +kernel) (by decide +kernel), tb_m 152 (by decide +kernel) rfl, ⟨by decide +kernel, by decide +kernel, by decide +kernel⟩, by decide +kernel⟩
theorem mv_A_expressionsAt : mi_wV mi_A_expressionsAt := ⟨tb_m 1496 (by decide +kernel) rfl, tb_m 1497 (by decide +kernel) rfl⟩
def tb_D_availableAt : List (Nat × Instr × Nat) := [(0, .aload_n 0, 1),
  (1, .iload_n 1, 1),
  (2, .invokevirtual 137, 3),
  (5, .aload_n 0, 1),
  (6, .invokevirtual 253, 3),
  (9, .aload_n 0, 1),
  (10, .getfield 87, 3),
  (13, .iload_n 1, 1),
  (14, .invokevirtual 188, 3),
  (17, .invokevirtual 266, 3),
  (20, .invokestatic 205, 3),
  (23, .ireturn, 1)]
def mi_D_availableAt : mi_T := ("DataflowLab", ({ cls := "DataflowLab", name := "availableAt", desc := "(I)I" } : MethodName), prog_1_method_31_code, 2, (Option.some FieldType.int), [], tb_D_availableAt)
theorem mo_D_availableAt : mi_ok mi_D_availableAt := by
  show ∀ q ∈ tb_D_availableAt, decode prog_1_method_31_code q.1 = .ok q.2
  decide +kernel
theorem mw_D_availableAt : mi_w mi_D_availableAt 1 := ⟨tb_m 1494 (by decide +kernel) (by decide +kernel), tb_m 144 (by decide +kernel) rfl, ⟨by decide +kernel, by decide +kernel, by decide +kernel⟩, by decide +kernel⟩
theorem mv_D_availableAt : mi_wV mi_D_availableAt := ⟨tb_m 1492 (by decide +kernel) rfl, tb_m 1493 (by decide +kernel) rfl⟩
def tb_G_dominatorSet : List (Nat × Instr × Nat) := [(0, .aload_n 0, 1),
  (1, .getfield 21, 3),
  (4, .iload_n 1, 1),
  (5, .invokestatic 62, 3),
  (8, .ireturn, 1)]
def mi_G_dominatorSet : mi_T := ("DataflowLab$Graph", ({ cls := "DataflowLab$Graph", name := "dominatorSet", desc := "(I)I" } : MethodName), prog_5_method_7_code, 2, (Option.some FieldType.int), [], tb_G_dominatorSet)
theorem mo_G_dominatorSet : mi_ok mi_G_dominatorSet := by
  show ∀ q ∈ tb_G_dominatorSet, decode prog_5_method_7_code q.1 = .ok q.2
  decide +kernel
theorem mw_G_dominatorSet : mi_w mi_G_dominatorSet 1 := ⟨tb_m 1509 (by decide +kernel) (by decide +kernel), tb_m 149 (by decide +kernel) rfl, ⟨by decide +kernel, by decide +kernel, by decide +kernel⟩, by decide +kernel⟩
theorem mv_G_dominatorSet : mi_wV mi_G_dominatorSet := ⟨tb_m 1507 (by decide +kernel) rfl, tb_m 1508 (by decide +kernel) rfl⟩
def tb_D_dominates : List (Nat × Instr × Nat) := [(0, .aload_n 0, 1),
  (1, .iload_n 1, 1),
  (2, .invokevirtual 137, 3),
  (5, .aload_n 0, 1),
  (6, .iload_n 2, 1),
  (7, .invokevirtual 137, 3),
  (10, .aload_n 0, 1),
  (11, .invokevirtual 165, 3),
  (14, .iload_n 2, 1),
  (15, .invokevirtual 269, 3),
  (18, .i2l, 1),
  (19, .iload_n 1, 1),
  (20, .invokestatic 195, 3),
  (23, .ireturn, 1)]
def mi_D_dominates : mi_T := ("DataflowLab", ({ cls := "DataflowLab", name := "dominates", desc := "(II)Z" } : MethodName), prog_1_method_32_code, 3, (Option.some FieldType.boolean), [], tb_D_dominates)
theorem mo_D_dominates : mi_ok mi_D_dominates := by
  show ∀ q ∈ tb_D_dominates, decode prog_1_method_32_code q.1 = .ok q.2
  decide +kernel
theorem mw_D_dominates : mi_w mi_D_dominates 2 := ⟨tb_m 1505 (by decide +kernel) (by decide +kernel), tb_m 144 (by decide +kernel) rfl, ⟨by decide +kernel, by decide +kernel, by decide +kernel⟩, by decide +kernel⟩
theorem mv_D_dominates : mi_wV mi_D_dominates := ⟨tb_m 1503 (by decide +kernel) rfl, tb_m 1504 (by decide +kernel) rfl⟩
def tb_G_closestOf : List (Nat × Instr × Nat) := [(0, .iconst 0, 1),
  (1, .istore_n 2, 1),
  (2, .iload_n 2, 1),
  (3, .bipush 12, 2),
  (5, .if_icmp .ge 32, 3),
  (8, .iload_n 1, 1),
  (9, .i2l, 1),
  (10, .iload_n 2, 1),
  (11, .invokestatic 53, 3),
  (14, .ifCond .eq 17, 3),
  (17, .aload_n 0, 1),
  (18, .getfield 21, 3),
  (21, .iload_n 2, 1),
  (22, .invokestatic 62, 3),
  (25, .iload_n 1, 1),
  (26, .if_icmp .ne 5, 3),
  (29, .iload_n 2, 1),
  (30, .ireturn, 1),
  (31, .iinc 2 1, 3),
  (34, .goto (-32), 3),
  (37, .iconst (-1), 1),
  (38, .ireturn, 1)]
def mi_G_closestOf : mi_T := ("DataflowLab$Graph", ({ cls := "DataflowLab$Graph", name := "closestOf", desc := "(I)I" } : MethodName), prog_5_method_9_code, 3, (Option.some FieldType.int), [], tb_G_closestOf)
theorem mo_G_closestOf : mi_ok mi_G_closestOf := by
  show ∀ q ∈ tb_G_closestOf, decode prog_5_method_9_code q.1 = .ok q.2
  decide +kernel
theorem mw_G_closestOf : mi_w mi_G_closestOf 1 := ⟨tb_m 1520 (by decide +kernel) (by decide +kernel), tb_m 149 (by decide +kernel) rfl, ⟨by decide +kernel, by decide +kernel, by decide +kernel⟩, by decide +kernel⟩
theorem mv_G_closestOf : mi_wV mi_G_closestOf := ⟨tb_m 1518 (by decide +kernel) rfl, tb_m 1519 (by decide +kernel) rfl⟩
def tb_D_immediateDominator : List (Nat × Instr × Nat) := [(0, .aload_n 0, 1),
  (1, .iload_n 1, 1),
  (2, .invokevirtual 137, 3),
  (5, .aload_n 0, 1),
  (6, .invokevirtual 165, 3),
  (9, .aload_n 0, 1),
  (10, .invokevirtual 165, 3),
  (13, .iload_n 1, 1),
  (14, .invokevirtual 269, 3),
  (17, .iconst 1, 1),
  (18, .iload_n 1, 1),
  (19, .ishl, 1),
  (20, .iconst (-1), 1),
  (21, .ixor, 1),
  (22, .iand, 1),
  (23, .invokevirtual 272, 3),
  (26, .ireturn, 1)]
def mi_D_immediateDominator : mi_T := ("DataflowLab", ({ cls := "DataflowLab", name := "immediateDominator", desc := "(I)I" } : MethodName), prog_1_method_33_code, 2, (Option.some FieldType.int), [], tb_D_immediateDominator)
theorem mo_D_immediateDominator : mi_ok mi_D_immediateDominator := by
  show ∀ q ∈ tb_D_immediateDominator, decode prog_1_method_33_code q.1 = .ok q.2
  decide +kernel
theorem mw_D_immediateDominator : mi_w mi_D_immediateDominator 1 := ⟨tb_m 1516 (by decide +kernel) (by decide +kernel), tb_m 144 (by decide +kernel) rfl, ⟨by decide +kernel, by decide +kernel, by decide +kernel⟩, by decide +kernel⟩
theorem mv_D_immediateDominator : mi_wV mi_D_immediateDominator := ⟨tb_m 1514 (by decide +kernel) rfl, tb_m 1515 (by decide +kernel) rfl⟩
def tb_D_commonDominator : List (Nat × Instr × Nat) := [(0, .aload_n 0, 1),
  (1, .iload_n 1, 1),
  (2, .invokevirtual 137, 3),
  (5, .aload_n 0, 1),
  (6, .iload_n 2, 1),
  (7, .invokevirtual 137, 3),
  (10, .aload_n 0, 1),
  (11, .invokevirtual 165, 3),
  (14, .aload_n 0, 1),
  (15, .invokevirtual 165, 3),
  (18, .iload_n 1, 1),
  (19, .invokevirtual 269, 3),
  (22, .aload_n 0, 1),
  (23, .invokevirtual 165, 3),
  (26, .iload_n 2, 1),
  (27, .invokevirtual 269, 3),
  (30, .iand, 1),
  (31, .invokevirtual 272, 3),
  (34, .ireturn, 1)]
def mi_D_commonDominator : mi_T := ("DataflowLab", ({ cls := "DataflowLab", name := "commonDominator", desc := "(II)I" } : MethodName), prog_1_method_34_code, 3, (Option.some FieldType.int), [], tb_D_commonDominator)
theorem mo_D_commonDominator : mi_ok mi_D_commonDominator := by
  show ∀ q ∈ tb_D_commonDominator, decode prog_1_method_34_code q.1 = .ok q.2
  decide +kernel
theorem mw_D_commonDominator : mi_w mi_D_commonDominator 2 := ⟨tb_m 1527 (by decide +kernel) (by decide +kernel), tb_m 144 (by decide +kernel) rfl, ⟨by decide +kernel, by decide +kernel, by decide +kernel⟩, by decide +kernel⟩
theorem mv_D_commonDominator : mi_wV mi_D_commonDominator := ⟨tb_m 1525 (by decide +kernel) rfl, tb_m 1526 (by decide +kernel) rfl⟩
def tb_G_countBackEdges : List (Nat × Instr × Nat) := [(0, .iconst 0, 1),
  (1, .istore_n 1, 1),
  (2, .iconst 0, 1),
  (3, .istore_n 2, 1),
  (4, .iload_n 2, 1),
  (5, .bipush 12, 2),
  (7, .if_icmp .ge 20, 3),
  (10, .iload_n 1, 1),
  (11, .aload_n 0, 1),
  (12, .iload_n 2, 1),
  (13, .invokevirtual 66, 3),
  (16, .invokestatic 57, 3),
  (19, .iadd, 1),
  (20, .istore_n 1, 1),
  (21, .iinc 2 1, 3),
  (24, .goto (-20), 3),
  (27, .iload_n 1, 1),
  (28, .ireturn, 1)]
def mi_G_countBackEdges : mi_T := ("DataflowLab$Graph", ({ cls := "DataflowLab$Graph", name := "countBackEdges", desc := "()I" } : MethodName), prog_5_method_10_code, 3, (Option.some FieldType.int), [], tb_G_countBackEdges)
theorem mo_G_countBackEdges : mi_ok mi_G_countBackEdges := by
  show ∀ q ∈ tb_G_countBackEdges, decode prog_5_method_10_code q.1 = .ok q.2
  decide +kernel
theorem mw_G_countBackEdges : mi_w mi_G_countBackEdges 0 := ⟨tb_m 916 (by decide +kernel) (by decide +kernel), tb_m 149 (by decide +kernel) rfl, ⟨by decide +kernel, by decide +kernel, by decide +kernel⟩, by decide +kernel⟩
theorem mv_G_countBackEdges : mi_wV mi_G_countBackEdges := ⟨tb_m 914 (by decide +kernel) rfl, tb_m 915 (by decide +kernel) rfl⟩
def tb_D_backEdges : List (Nat × Instr × Nat) := [(0, .aload_n 0, 1),
  (1, .invokevirtual 165, 3),
  (4, .invokevirtual 275, 3),
  (7, .ireturn, 1)]
def mi_D_backEdges : mi_T := ("DataflowLab", ({ cls := "DataflowLab", name := "backEdges", desc := "()I" } : MethodName), prog_1_method_35_code, 1, (Option.some FieldType.int), [], tb_D_backEdges)
theorem mo_D_backEdges : mi_ok mi_D_backEdges := by
  show ∀ q ∈ tb_D_backEdges, decode prog_1_method_35_code q.1 = .ok q.2
  decide +kernel
theorem mw_D_backEdges : mi_w mi_D_backEdges 0 := ⟨tb_m 912 (by decide +kernel) (by decide +kernel), tb_m 144 (by decide +kernel) rfl, ⟨by decide +kernel, by decide +kernel, by decide +kernel⟩, by decide +kernel⟩
theorem mv_D_backEdges : mi_wV mi_D_backEdges := ⟨tb_m 910 (by decide +kernel) rfl, tb_m 911 (by decide +kernel) rfl⟩
def tb_G_bodyOf : List (Nat × Instr × Nat) := [(0, .aload_n 0, 1),
  (1, .getfield 24, 3),
  (4, .iload_n 1, 1),
  (5, .invokestatic 62, 3),
  (8, .ireturn, 1)]
def mi_G_bodyOf : mi_T := ("DataflowLab$Graph", ({ cls := "DataflowLab$Graph", name := "bodyOf", desc := "(I)I" } : MethodName), prog_5_method_8_code, 2, (Option.some FieldType.int), [], tb_G_bodyOf)
theorem mo_G_bodyOf : mi_ok mi_G_bodyOf := by
  show ∀ q ∈ tb_G_bodyOf, decode prog_5_method_8_code q.1 = .ok q.2
  decide +kernel
theorem mw_G_bodyOf : mi_w mi_G_bodyOf 1 := ⟨tb_m 1538 (by decide +kernel) (by decide +kernel), tb_m 149 (by decide +kernel) rfl, ⟨by decide +kernel, by decide +kernel, by decide +kernel⟩, by decide +kernel⟩
theorem mv_G_bodyOf : mi_wV mi_G_bodyOf := ⟨tb_m 1536 (by decide +kernel) rfl, tb_m 1537 (by decide +kernel) rfl⟩
def tb_D_loopSize : List (Nat × Instr × Nat) := [(0, .aload_n 0, 1),
  (1, .iload_n 1, 1),
  (2, .invokevirtual 137, 3),
  (5, .aload_n 0, 1),
  (6, .invokevirtual 165, 3),
  (9, .iload_n 1, 1),
  (10, .invokevirtual 278, 3),
  (13, .invokestatic 172, 3),
  (16, .ireturn, 1)]
def mi_D_loopSize : mi_T := ("DataflowLab", ({ cls := "DataflowLab", name := "loopSize", desc := "(I)I" } : MethodName), prog_1_method_36_code, 2, (Option.some FieldType.int), [], tb_D_loopSize)
theorem mo_D_loopSize : mi_ok mi_D_loopSize := by
  show ∀ q ∈ tb_D_loopSize, decode prog_1_method_36_code q.1 = .ok q.2
  decide +kernel
theorem mw_D_loopSize : mi_w mi_D_loopSize 1 := ⟨tb_m 1534 (by decide +kernel) (by decide +kernel), tb_m 144 (by decide +kernel) rfl, ⟨by decide +kernel, by decide +kernel, by decide +kernel⟩, by decide +kernel⟩
theorem mv_D_loopSize : mi_wV mi_D_loopSize := ⟨tb_m 1532 (by decide +kernel) rfl, tb_m 1533 (by decide +kernel) rfl⟩
def tb_G_countBodiesWith : List (Nat × Instr × Nat) := [(0, .iconst 0, 1),
  (1, .istore_n 2, 1),
  (2, .iconst 0, 1),
  (3, .istore_n 3, 1),
  (4, .iload_n 3, 1),
  (5, .bipush 12, 2),
  (7, .if_icmp .ge 33, 3),
  (10, .iload_n 2, 1),
  (11, .aload_n 0, 1),
  (12, .getfield 24, 3),
  (15, .iload_n 3, 1),
  (16, .invokestatic 62, 3),
  (19, .i2l, 1),
  (20, .iload_n 1, 1),
  (21, .invokestatic 53, 3),
  (24, .ifCond .eq 7, 3),
  (27, .iconst 1, 1),
  (28, .goto 4, 3),
  (31, .iconst 0, 1),
  (32, .iadd, 1),
  (33, .istore_n 2, 1),
  (34, .iinc 3 1, 3),
  (37, .goto (-33), 3),
  (40, .iload_n 2, 1),
  (41, .ireturn, 1)]
def mi_G_countBodiesWith : mi_T := ("DataflowLab$Graph", ({ cls := "DataflowLab$Graph", name := "countBodiesWith", desc := "(I)I" } : MethodName), prog_5_method_11_code, 4, (Option.some FieldType.int), [], tb_G_countBodiesWith)
theorem mo_G_countBodiesWith : mi_ok mi_G_countBodiesWith := by
  show ∀ q ∈ tb_G_countBodiesWith, decode prog_5_method_11_code q.1 = .ok q.2
  decide +kernel
theorem mw_G_countBodiesWith : mi_w mi_G_countBodiesWith 1 := ⟨tb_m 1549 (by decide +kernel) (by decide +kernel), tb_m 149 (by decide +kernel) rfl, ⟨by decide +kernel, by decide +kernel, by decide +kernel⟩, by decide +kernel⟩
theorem mv_G_countBodiesWith : mi_wV mi_G_countBodiesWith := ⟨tb_m 1547 (by decide +kernel) rfl, tb_m 1548 (by decide +kernel) rfl⟩
def tb_D_loopDepth : List (Nat × Instr × Nat) := [(0, .aload_n 0, 1),
  (1, .iload_n 1, 1),
  (2, .invokevirtual 137, 3),
  (5, .aload_n 0, 1),
  (6, .invokevirtual 165, 3),
  (9, .iload_n 1, 1),
  (10, .invokevirtual 281, 3),
  (13, .ireturn, 1)]
def mi_D_loopDepth : mi_T := ("DataflowLab", ({ cls := "DataflowLab", name := "loopDepth", desc := "(I)I" } : MethodName), prog_1_method_37_code, 2, (Option.some FieldType.int), [], tb_D_loopDepth)
theorem mo_D_loopDepth : mi_ok mi_D_loopDepth := by
  show ∀ q ∈ tb_D_loopDepth, decode prog_1_method_37_code q.1 = .ok q.2
  decide +kernel
theorem mw_D_loopDepth : mi_w mi_D_loopDepth 1 := ⟨tb_m 1545 (by decide +kernel) (by decide +kernel), tb_m 144 (by decide +kernel) rfl, ⟨by decide +kernel, by decide +kernel, by decide +kernel⟩, by decide +kernel⟩
theorem mv_D_loopDepth : mi_wV mi_D_loopDepth := ⟨tb_m 1543 (by decide +kernel) rfl, tb_m 1544 (by decide +kernel) rfl⟩
def tb_C_stateBefore : List (Nat × Instr × Nat) := [(0, .aload_n 0, 1),
  (1, .getfield 9, 3),
  (4, .iload_n 1, 1),
  (5, .bipush 8, 2),
  (7, .imul, 1),
  (8, .iload_n 2, 1),
  (9, .iadd, 1),
  (10, .invokestatic 62, 3),
  (13, .ireturn, 1)]
def mi_C_stateBefore : mi_T := ("DataflowLab$Constants", ({ cls := "DataflowLab$Constants", name := "stateBefore", desc := "(II)I" } : MethodName), prog_4_method_6_code, 3, (Option.some FieldType.int), [], tb_C_stateBefore)
theorem mo_C_stateBefore : mi_ok mi_C_stateBefore := by
  show ∀ q ∈ tb_C_stateBefore, decode prog_4_method_6_code q.1 = .ok q.2
  decide +kernel
theorem mw_C_stateBefore : mi_w mi_C_stateBefore 2 := ⟨tb_m 939 (by decide +kernel) (by decide +kernel), tb_m 153 (by decide +kernel) rfl, ⟨by decide +kernel, by decide +kernel, by decide +kernel⟩, by decide +kernel⟩
theorem mv_C_stateBefore : mi_wV mi_C_stateBefore := ⟨tb_m 938 (by decide +kernel) rfl, tb_m 29 (by decide +kernel) rfl⟩
def tb_C_meet : List (Nat × Instr × Nat) := [(0, .aload_n 0, 1),
  (1, .iload_n 1, 1),
  (2, .iload_n 2, 1),
  (3, .invokevirtual 53, 3),
  (6, .istore 4, 2),
  (8, .iload_n 3, 1),
  (9, .bipush (-2), 2),
  (11, .if_icmp .eq 15, 3),
  (14, .iload_n 3, 1),
  (15, .iload 4, 2),
  (17, .if_icmp .eq 9, 3),
  (20, .iload 4, 2),
  (22, .iconst (-1), 1),
  (23, .if_icmp .ne 5, 3),
  (26, .iconst 0, 1),
  (27, .ireturn, 1),
  (28, .aload_n 0, 1),
  (29, .getfield 9, 3),
  (32, .iload_n 1, 1),
  (33, .bipush 8, 2),
  (35, .imul, 1),
  (36, .iload_n 2, 1),
  (37, .iadd, 1),
  (38, .iload 4, 2),
  (40, .bipush (-2), 2),
  (42, .if_icmp .ne 7, 3),
  (45, .iload_n 3, 1),
  (46, .goto 4, 3),
  (49, .iconst (-1), 1),
  (50, .invokestatic 91, 3),
  (53, .iconst 1, 1),
  (54, .ireturn, 1)]
def mi_C_meet : mi_T := ("DataflowLab$Constants", ({ cls := "DataflowLab$Constants", name := "meet", desc := "(III)Z" } : MethodName), prog_4_method_9_code, 5, (Option.some FieldType.boolean), [], tb_C_meet)
theorem mo_C_meet : mi_ok mi_C_meet := by
  show ∀ q ∈ tb_C_meet, decode prog_4_method_9_code q.1 = .ok q.2
  decide +kernel
theorem mw_C_meet : mi_w mi_C_meet 3 := ⟨tb_m 935 (by decide +kernel) (by decide +kernel), tb_m 153 (by decide +kernel) rfl, ⟨by decide +kernel, by decide +kernel, by decide +kernel⟩, by decide +kernel⟩
theorem mv_C_meet : mi_wV mi_C_meet := ⟨tb_m 934 (by decide +kernel) rfl, tb_m 28 (by decide +kernel) rfl⟩
def tb_O_constant : List (Nat × Instr × Nat) := [(0, .iload_n 0, 1),
  (1, .bipush 13, 2),
  (3, .iushr, 1),
  (4, .sipush 1023, 3),
  (7, .iand, 1),
  (8, .ireturn, 1)]
def mi_O_constant : mi_T := ("DataflowLab$Code", ({ cls := "DataflowLab$Code", name := "constant", desc := "(I)I" } : MethodName), prog_3_method_11_code, 1, (Option.some FieldType.int), [], tb_O_constant)
theorem mo_O_constant : mi_ok mi_O_constant := by
  show ∀ q ∈ tb_O_constant, decode prog_3_method_11_code q.1 = .ok q.2
  decide +kernel
theorem mw_O_constant : mi_w mi_O_constant 1 := ⟨tb_m 959 (by decide +kernel) (by decide +kernel), tb_m 160 (by decide +kernel) rfl, ⟨by decide +kernel, by decide +kernel, by decide +kernel⟩, by decide +kernel⟩
theorem mv_O_constant : Cond.static (mi_y mi_O_constant) ∈ tb_G := tb_m 958 (by decide +kernel) rfl
def tb_O_operator : List (Nat × Instr × Nat) := [(0, .iload_n 0, 1),
  (1, .bipush 11, 2),
  (3, .iushr, 1),
  (4, .iconst 3, 1),
  (5, .iand, 1),
  (6, .ireturn, 1)]
def mi_O_operator : mi_T := ("DataflowLab$Code", ({ cls := "DataflowLab$Code", name := "operator", desc := "(I)I" } : MethodName), prog_3_method_9_code, 1, (Option.some FieldType.int), [], tb_O_operator)
theorem mo_O_operator : mi_ok mi_O_operator := by
  show ∀ q ∈ tb_O_operator, decode prog_3_method_9_code q.1 = .ok q.2
  decide +kernel
theorem mw_O_operator : mi_w mi_O_operator 1 := ⟨tb_m 964 (by decide +kernel) (by decide +kernel), tb_m 160 (by decide +kernel) rfl, ⟨by decide +kernel, by decide +kernel, by decide +kernel⟩, by decide +kernel⟩
theorem mv_O_operator : Cond.static (mi_y mi_O_operator) ∈ tb_G := tb_m 963 (by decide +kernel) rfl
def tb_JM_floorMod : List (Nat × Instr × Nat) := [(0, .iload_n 0, 1),
  (1, .iload_n 1, 1),
  (2, .irem, 1),
  (3, .istore_n 2, 1),
  (4, .iload_n 0, 1),
  (5, .iload_n 1, 1),
  (6, .ixor, 1),
  (7, .ifCond .ge 11, 3),
  (10, .iload_n 2, 1),
  (11, .ifCond .eq 7, 3),
  (14, .iload_n 2, 1),
  (15, .iload_n 1, 1),
  (16, .iadd, 1),
  (17, .ireturn, 1),
  (18, .iload_n 2, 1),
  (19, .ireturn, 1)]
def mi_JM_floorMod : mi_T := ("java/lang/Math", ({ cls := "java/lang/Math", name := "floorMod", desc := "(II)I" } : MethodName), prog_24_method_50_code, 3, (Option.some FieldType.int), [], tb_JM_floorMod)
theorem mo_JM_floorMod : mi_ok mi_JM_floorMod := by
  show ∀ q ∈ tb_JM_floorMod, decode prog_24_method_50_code q.1 = .ok q.2
  decide +kernel
theorem mw_JM_floorMod : mi_w mi_JM_floorMod 2 := ⟨tb_m 970 (by decide +kernel) (by decide +kernel), tb_m 159 (by decide +kernel) rfl, ⟨by decide +kernel, by decide +kernel, by decide +kernel⟩, by decide +kernel⟩
theorem mv_JM_floorMod : Cond.static (mi_y mi_JM_floorMod) ∈ tb_G := tb_m 969 (by decide +kernel) rfl
def tb_O_result : List (Nat × Instr × Nat) := [(0, .iload_n 0, 1),
  (1, .ifCond .ne 13, 3),
  (4, .iload_n 1, 1),
  (5, .iload_n 2, 1),
  (6, .iadd, 1),
  (7, .sipush 1000, 3),
  (10, .invokestatic 15, 3),
  (13, .ireturn, 1),
  (14, .iload_n 0, 1),
  (15, .iconst 1, 1),
  (16, .if_icmp .ne 9, 3),
  (19, .iload_n 1, 1),
  (20, .iload_n 2, 1),
  (21, .isub, 1),
  (22, .goto 6, 3),
  (25, .iload_n 1, 1),
  (26, .iload_n 2, 1),
  (27, .imul, 1),
  (28, .sipush 1000, 3),
  (31, .invokestatic 15, 3),
  (34, .ireturn, 1)]
def mi_O_result : mi_T := ("DataflowLab$Code", ({ cls := "DataflowLab$Code", name := "result", desc := "(III)I" } : MethodName), prog_3_method_12_code, 3, (Option.some FieldType.int), [], tb_O_result)
theorem mo_O_result : mi_ok mi_O_result := by
  show ∀ q ∈ tb_O_result, decode prog_3_method_12_code q.1 = .ok q.2
  decide +kernel
theorem mw_O_result : mi_w mi_O_result 3 := ⟨tb_m 967 (by decide +kernel) (by decide +kernel), tb_m 160 (by decide +kernel) rfl, ⟨by decide +kernel, by decide +kernel, by decide +kernel⟩, by decide +kernel⟩
theorem mv_O_result : Cond.static (mi_y mi_O_result) ∈ tb_G := tb_m 966 (by decide +kernel) rfl
def tb_C_stateOfResult : List (Nat × Instr × Nat) := [(0, .iload_n 2, 1),
  (1, .invokestatic 101, 3),
  (4, .istore_n 3, 1),
  (5, .iload_n 3, 1),
  (6, .ifCond .ne 8, 3),
  (9, .iload_n 2, 1),
  (10, .invokestatic 106, 3),
  (13, .ireturn, 1),
  (14, .aload_n 0, 1),
  (15, .iload_n 1, 1),
  (16, .iload_n 2, 1),
  (17, .invokestatic 109, 3),
  (20, .invokevirtual 53, 3),
  (23, .istore 4, 2),
  (25, .iload_n 3, 1),
  (26, .iconst 1, 1),
  (27, .if_icmp .ne 6, 3),
  (30, .iload 4, 2),
  (32, .ireturn, 1),
  (33, .aload_n 0, 1),
  (34, .iload_n 1, 1),
  (35, .iload_n 2, 1),
  (36, .invokestatic 112, 3),
  (39, .invokevirtual 53, 3),
  (42, .istore 5, 2),
  (44, .iload 4, 2),
  (46, .ifCond .lt 20, 3),
  (49, .iload 5, 2),
  (51, .ifCond .lt 15, 3),
  (54, .iload_n 2, 1),
  (55, .invokestatic 115, 3),
  (58, .iload 4, 2),
  (60, .iload 5, 2),
  (62, .invokestatic 118, 3),
  (65, .ireturn, 1),
  (66, .iload 4, 2),
  (68, .iconst (-1), 1),
  (69, .if_icmp .eq 9, 3),
  (72, .iload 5, 2),
  (74, .iconst (-1), 1),
  (75, .if_icmp .ne 7, 3),
  (78, .iconst (-1), 1),
  (79, .goto 5, 3),
  (82, .bipush (-2), 2),
  (84, .ireturn, 1)]
def mi_C_stateOfResult : mi_T := ("DataflowLab$Constants", ({ cls := "DataflowLab$Constants", name := "stateOfResult", desc := "(II)I" } : MethodName), prog_4_method_8_code, 6, (Option.some FieldType.int), [], tb_C_stateOfResult)
theorem mo_C_stateOfResult : mi_ok mi_C_stateOfResult := by
  show ∀ q ∈ tb_C_stateOfResult, decode prog_4_method_8_code q.1 = .ok q.2
  decide +kernel
theorem mw_C_stateOfResult : mi_w mi_C_stateOfResult 2 := ⟨tb_m 955 (by decide +kernel) (by decide +kernel), tb_m 153 (by decide +kernel) rfl, ⟨by decide +kernel, by decide +kernel, by decide +kernel⟩, by decide +kernel⟩
theorem mv_C_stateOfResult : mi_wV mi_C_stateOfResult := ⟨tb_m 954 (by decide +kernel) rfl, tb_m 31 (by decide +kernel) rfl⟩
def tb_C_flow : List (Nat × Instr × Nat) := [(0, .aload_n 1, 1),
  (1, .iload_n 2, 1),
  (2, .invokevirtual 82, 3),
  (5, .istore_n 3, 1),
  (6, .iload_n 3, 1),
  (7, .iconst (-1), 1),
  (8, .if_icmp .eq 21, 3),
  (11, .aload_n 0, 1),
  (12, .getfield 15, 3),
  (15, .iload_n 2, 1),
  (16, .aload_n 0, 1),
  (17, .iload_n 2, 1),
  (18, .aload_n 1, 1),
  (19, .iload_n 2, 1),
  (20, .invokevirtual 85, 3),
  (23, .invokevirtual 88, 3),
  (26, .invokestatic 91, 3),
  (29, .iconst 0, 1),
  (30, .istore 4, 2),
  (32, .iconst 0, 1),
  (33, .istore 5, 2),
  (35, .iload 5, 2),
  (37, .aload_n 1, 1),
  (38, .iload_n 2, 1),
  (39, .invokevirtual 95, 3),
  (42, .if_icmp .ge 76, 3),
  (45, .aload_n 1, 1),
  (46, .iload_n 2, 1),
  (47, .iload 5, 2),
  (49, .invokevirtual 98, 3),
  (52, .istore 6, 2),
  (54, .iconst 0, 1),
  (55, .istore 7, 2),
  (57, .iload 7, 2),
  (59, .bipush 8, 2),
  (61, .if_icmp .ge 51, 3),
  (64, .iload 7, 2),
  (66, .iload_n 3, 1),
  (67, .if_icmp .ne 14, 3),
  (70, .aload_n 0, 1),
  (71, .getfield 15, 3),
  (74, .iload_n 2, 1),
  (75, .invokestatic 62, 3),
  (78, .goto 10, 3),
  (81, .aload_n 0, 1),
  (82, .iload_n 2, 1),
  (83, .iload 7, 2),
  (85, .invokevirtual 53, 3),
  (88, .istore 8, 2),
  (90, .aload_n 0, 1),
  (91, .iload 6, 2),
  (93, .iload 7, 2),
  (95, .iload 8, 2),
  (97, .invokevirtual 28, 3),
  (100, .ifCond .eq 6, 3),
  (103, .iconst 1, 1),
  (104, .istore 4, 2),
  (106, .iinc 7 1, 3),
  (109, .goto (-52), 3),
  (112, .iinc 5 1, 3),
  (115, .goto (-80), 3),
  (118, .iload 4, 2),
  (120, .ireturn, 1)]
def mi_C_flow : mi_T := ("DataflowLab$Constants", ({ cls := "DataflowLab$Constants", name := "flow", desc := "(LDataflowLab$Program;I)Z" } : MethodName), prog_4_method_7_code, 9, (Option.some FieldType.boolean), [], tb_C_flow)
theorem mo_C_flow : mi_ok mi_C_flow := by
  show ∀ q ∈ tb_C_flow, decode prog_4_method_7_code q.1 = .ok q.2
  decide +kernel
theorem mw_C_flow : mi_w mi_C_flow 2 := ⟨tb_m 949 (by decide +kernel) (by decide +kernel), tb_m 153 (by decide +kernel) rfl, ⟨by decide +kernel, by decide +kernel, by decide +kernel⟩, by decide +kernel⟩
theorem mv_C_flow : mi_wV mi_C_flow := ⟨tb_m 948 (by decide +kernel) rfl, tb_m 30 (by decide +kernel) rfl⟩
def tb_C_analyse : List (Nat × Instr × Nat) := [(0, .aload_n 0, 1),
  (1, .getfield 9, 3),
  (4, .bipush (-2), 2),
  (6, .invokestatic 18, 3),
  (9, .aload_n 0, 1),
  (10, .getfield 15, 3),
  (13, .bipush (-2), 2),
  (15, .invokestatic 18, 3),
  (18, .iconst 0, 1),
  (19, .istore_n 3, 1),
  (20, .iload_n 3, 1),
  (21, .bipush 8, 2),
  (23, .if_icmp .ge 21, 3),
  (26, .aload_n 0, 1),
  (27, .aload_n 1, 1),
  (28, .iconst 0, 1),
  (29, .invokevirtual 22, 3),
  (32, .iload_n 3, 1),
  (33, .iconst 0, 1),
  (34, .invokevirtual 28, 3),
  (37, .pop, 1),
  (38, .iinc 3 1, 3),
  (41, .goto (-21), 3),
  (44, .iconst 1, 1),
  (45, .istore_n 3, 1),
  (46, .iconst 0, 1),
  (47, .istore 4, 2),
  (49, .iload_n 3, 1),
  (50, .ifCond .eq 68, 3),
  (53, .iload 4, 2),
  (55, .ldc 32, 2),
  (57, .if_icmp .ge 61, 3),
  (60, .iconst 0, 1),
  (61, .istore_n 3, 1),
  (62, .iconst 0, 1),
  (63, .istore 5, 2),
  (65, .iload 5, 2),
  (67, .bipush 52, 2),
  (69, .if_icmp .ge 43, 3),
  (72, .aload_n 1, 1),
  (73, .iload 5, 2),
  (75, .invokevirtual 33, 3),
  (78, .ifCond .eq 28, 3),
  (81, .aload_n 2, 1),
  (82, .aload_n 1, 1),
  (83, .iload 5, 2),
  (85, .invokevirtual 37, 3),
  (88, .invokevirtual 40, 3),
  (91, .ifCond .eq 15, 3),
  (94, .aload_n 0, 1),
  (95, .aload_n 1, 1),
  (96, .iload 5, 2),
  (98, .invokevirtual 45, 3),
  (101, .ifCond .eq 5, 3),
  (104, .iconst 1, 1),
  (105, .istore_n 3, 1),
  (106, .iinc 5 1, 3),
  (109, .goto (-44), 3),
  (112, .iinc 4 1, 3),
  (115, .goto (-66), 3),
  (118, .aload_n 0, 1),
  (119, .iconst 1, 1),
  (120, .putfield 49, 3),
  (123, .return_, 1)]
def mi_C_analyse : mi_T := ("DataflowLab$Constants", ({ cls := "DataflowLab$Constants", name := "analyse", desc := "(LDataflowLab$Program;LDataflowLab$Graph;)V" } : MethodName), prog_4_method_2_code, 6, (Option.none : Option FieldType), [], tb_C_analyse)
theorem mo_C_analyse : mi_ok mi_C_analyse := by
  show ∀ q ∈ tb_C_analyse, decode prog_4_method_2_code q.1 = .ok q.2
  decide +kernel
theorem mw_C_analyse : mi_w mi_C_analyse 2 := ⟨tb_m 929 (by decide +kernel) (by decide +kernel), tb_m 153 (by decide +kernel) rfl, ⟨by decide +kernel, by decide +kernel, by decide +kernel⟩, by decide +kernel⟩
theorem mv_C_analyse : mi_wV mi_C_analyse := ⟨tb_m 927 (by decide +kernel) rfl, tb_m 928 (by decide +kernel) rfl⟩
def tb_D_constants : List (Nat × Instr × Nat) := [(0, .aload_n 0, 1),
  (1, .getfield 72, 3),
  (4, .getfield 477, 3),
  (7, .ifCond .ne 18, 3),
  (10, .aload_n 0, 1),
  (11, .getfield 72, 3),
  (14, .aload_n 0, 1),
  (15, .getfield 87, 3),
  (18, .aload_n 0, 1),
  (19, .invokevirtual 165, 3),
  (22, .invokevirtual 486, 3),
  (25, .aload_n 0, 1),
  (26, .getfield 72, 3),
  (29, .areturn, 1)]
def mi_D_constants : mi_T := ("DataflowLab", ({ cls := "DataflowLab", name := "constants", desc := "()LDataflowLab$Constants;" } : MethodName), prog_1_method_79_code, 1, (Option.some (FieldType.object "DataflowLab$Constants")), [], tb_D_constants)
theorem mo_D_constants : mi_ok mi_D_constants := by
  show ∀ q ∈ tb_D_constants, decode prog_1_method_79_code q.1 = .ok q.2
  decide +kernel
theorem mw_D_constants : mi_w mi_D_constants 0 := ⟨tb_m 925 (by decide +kernel) (by decide +kernel), tb_m 144 (by decide +kernel) rfl, ⟨by decide +kernel, by decide +kernel, by decide +kernel⟩, by decide +kernel⟩
theorem mv_D_constants : mi_wV mi_D_constants := ⟨tb_m 924 (by decide +kernel) rfl, tb_m 27 (by decide +kernel) rfl⟩
def tb_C_constantBefore : List (Nat × Instr × Nat) := [(0, .aload_n 0, 1),
  (1, .iload_n 1, 1),
  (2, .iload_n 2, 1),
  (3, .invokevirtual 53, 3),
  (6, .iconst (-1), 1),
  (7, .invokestatic 57, 3),
  (10, .ireturn, 1)]
def mi_C_constantBefore : mi_T := ("DataflowLab$Constants", ({ cls := "DataflowLab$Constants", name := "constantBefore", desc := "(II)I" } : MethodName), prog_4_method_3_code, 3, (Option.some FieldType.int), [], tb_C_constantBefore)
theorem mo_C_constantBefore : mi_ok mi_C_constantBefore := by
  show ∀ q ∈ tb_C_constantBefore, decode prog_4_method_3_code q.1 = .ok q.2
  decide +kernel
theorem mw_C_constantBefore : mi_w mi_C_constantBefore 2 := ⟨tb_m 989 (by decide +kernel) (by decide +kernel), tb_m 153 (by decide +kernel) rfl, ⟨by decide +kernel, by decide +kernel, by decide +kernel⟩, by decide +kernel⟩
theorem mv_C_constantBefore : mi_wV mi_C_constantBefore := ⟨tb_m 987 (by decide +kernel) rfl, tb_m 988 (by decide +kernel) rfl⟩
def tb_D_constantAt : List (Nat × Instr × Nat) := [(0, .aload_n 0, 1),
  (1, .iload_n 1, 1),
  (2, .invokevirtual 137, 3),
  (5, .iload_n 2, 1),
  (6, .invokestatic 199, 3),
  (9, .aload_n 0, 1),
  (10, .invokevirtual 284, 3),
  (13, .aload_n 0, 1),
  (14, .getfield 87, 3),
  (17, .iload_n 1, 1),
  (18, .invokevirtual 188, 3),
  (21, .iload_n 2, 1),
  (22, .invokevirtual 288, 3),
  (25, .ireturn, 1)]
def mi_D_constantAt : mi_T := ("DataflowLab", ({ cls := "DataflowLab", name := "constantAt", desc := "(II)I" } : MethodName), prog_1_method_38_code, 3, (Option.some FieldType.int), [], tb_D_constantAt)
theorem mo_D_constantAt : mi_ok mi_D_constantAt := by
  show ∀ q ∈ tb_D_constantAt, decode prog_1_method_38_code q.1 = .ok q.2
  decide +kernel
theorem mw_D_constantAt : mi_w mi_D_constantAt 2 := ⟨tb_m 1556 (by decide +kernel) (by decide +kernel), tb_m 144 (by decide +kernel) rfl, ⟨by decide +kernel, by decide +kernel, by decide +kernel⟩, by decide +kernel⟩
theorem mv_D_constantAt : mi_wV mi_D_constantAt := ⟨tb_m 1554 (by decide +kernel) rfl, tb_m 1555 (by decide +kernel) rfl⟩
def tb_C_constantGiven : List (Nat × Instr × Nat) := [(0, .aload_n 0, 1),
  (1, .getfield 15, 3),
  (4, .iload_n 1, 1),
  (5, .invokestatic 62, 3),
  (8, .iconst (-1), 1),
  (9, .invokestatic 57, 3),
  (12, .ireturn, 1)]
def mi_C_constantGiven : mi_T := ("DataflowLab$Constants", ({ cls := "DataflowLab$Constants", name := "constantGiven", desc := "(I)I" } : MethodName), prog_4_method_4_code, 2, (Option.some FieldType.int), [], tb_C_constantGiven)
theorem mo_C_constantGiven : mi_ok mi_C_constantGiven := by
  show ∀ q ∈ tb_C_constantGiven, decode prog_4_method_4_code q.1 = .ok q.2
  decide +kernel
theorem mw_C_constantGiven : mi_w mi_C_constantGiven 1 := ⟨tb_m 1123 (by decide +kernel) (by decide +kernel), tb_m 153 (by decide +kernel) rfl, ⟨by decide +kernel, by decide +kernel, by decide +kernel⟩, by decide +kernel⟩
theorem mv_C_constantGiven : mi_wV mi_C_constantGiven := ⟨tb_m 1121 (by decide +kernel) rfl, tb_m 1122 (by decide +kernel) rfl⟩
def tb_D_constantOf : List (Nat × Instr × Nat) := [(0, .aload_n 0, 1),
  (1, .iload_n 1, 1),
  (2, .invokevirtual 144, 3),
  (5, .aload_n 0, 1),
  (6, .invokevirtual 284, 3),
  (9, .iload_n 1, 1),
  (10, .invokevirtual 291, 3),
  (13, .ireturn, 1)]
def mi_D_constantOf : mi_T := ("DataflowLab", ({ cls := "DataflowLab", name := "constantOf", desc := "(I)I" } : MethodName), prog_1_method_39_code, 2, (Option.some FieldType.int), [], tb_D_constantOf)
theorem mo_D_constantOf : mi_ok mi_D_constantOf := by
  show ∀ q ∈ tb_D_constantOf, decode prog_1_method_39_code q.1 = .ok q.2
  decide +kernel
theorem mw_D_constantOf : mi_w mi_D_constantOf 1 := ⟨tb_m 1564 (by decide +kernel) (by decide +kernel), tb_m 144 (by decide +kernel) rfl, ⟨by decide +kernel, by decide +kernel, by decide +kernel⟩, by decide +kernel⟩
theorem mv_D_constantOf : mi_wV mi_D_constantOf := ⟨tb_m 1562 (by decide +kernel) rfl, tb_m 1563 (by decide +kernel) rfl⟩
def tb_P_testedBy : List (Nat × Instr × Nat) := [(0, .aload_n 0, 1),
  (1, .getfield 21, 3),
  (4, .iload_n 1, 1),
  (5, .invokestatic 41, 3),
  (8, .ireturn, 1)]
def mi_P_testedBy : mi_T := ("DataflowLab$Program", ({ cls := "DataflowLab$Program", name := "testedBy", desc := "(I)I" } : MethodName), prog_10_method_11_code, 2, (Option.some FieldType.int), [], tb_P_testedBy)
theorem mo_P_testedBy : mi_ok mi_P_testedBy := by
  show ∀ q ∈ tb_P_testedBy, decode prog_10_method_11_code q.1 = .ok q.2
  decide +kernel
theorem mw_P_testedBy : mi_w mi_P_testedBy 1 := ⟨tb_m 985 (by decide +kernel) (by decide +kernel), tb_m 145 (by decide +kernel) rfl, ⟨by decide +kernel, by decide +kernel, by decide +kernel⟩, by decide +kernel⟩
theorem mv_P_testedBy : mi_wV mi_P_testedBy := ⟨tb_m 983 (by decide +kernel) rfl, tb_m 984 (by decide +kernel) rfl⟩
def tb_C_countDecided : List (Nat × Instr × Nat) := [(0, .iconst 0, 1),
  (1, .istore_n 2, 1),
  (2, .iconst 0, 1),
  (3, .istore_n 3, 1),
  (4, .iload_n 3, 1),
  (5, .aload_n 1, 1),
  (6, .getfield 66, 3),
  (9, .if_icmp .ge 51, 3),
  (12, .aload_n 1, 1),
  (13, .iload_n 3, 1),
  (14, .invokevirtual 70, 3),
  (17, .iconst 2, 1),
  (18, .if_icmp .ne 7, 3),
  (21, .iconst 1, 1),
  (22, .goto 4, 3),
  (25, .iconst 0, 1),
  (26, .istore 4, 2),
  (28, .iload 4, 2),
  (30, .ifCond .eq 24, 3),
  (33, .aload_n 0, 1),
  (34, .aload_n 1, 1),
  (35, .iload_n 3, 1),
  (36, .invokevirtual 73, 3),
  (39, .aload_n 1, 1),
  (40, .iload_n 3, 1),
  (41, .invokevirtual 76, 3),
  (44, .invokevirtual 79, 3),
  (47, .iconst (-1), 1),
  (48, .if_icmp .eq 6, 3),
  (51, .iinc 2 1, 3),
  (54, .iinc 3 1, 3),
  (57, .goto (-53), 3),
  (60, .iload_n 2, 1),
  (61, .ireturn, 1)]
def mi_C_countDecided : mi_T := ("DataflowLab$Constants", ({ cls := "DataflowLab$Constants", name := "countDecided", desc := "(LDataflowLab$Program;)I" } : MethodName), prog_4_method_5_code, 5, (Option.some FieldType.int), [], tb_C_countDecided)
theorem mo_C_countDecided : mi_ok mi_C_countDecided := by
  show ∀ q ∈ tb_C_countDecided, decode prog_4_method_5_code q.1 = .ok q.2
  decide +kernel
theorem mw_C_countDecided : mi_w mi_C_countDecided 1 := ⟨tb_m 976 (by decide +kernel) (by decide +kernel), tb_m 153 (by decide +kernel) rfl, ⟨by decide +kernel, by decide +kernel, by decide +kernel⟩, by decide +kernel⟩
theorem mv_C_countDecided : mi_wV mi_C_countDecided := ⟨tb_m 974 (by decide +kernel) rfl, tb_m 975 (by decide +kernel) rfl⟩
def tb_D_decidedBranches : List (Nat × Instr × Nat) := [(0, .aload_n 0, 1),
  (1, .invokevirtual 284, 3),
  (4, .aload_n 0, 1),
  (5, .getfield 87, 3),
  (8, .invokevirtual 294, 3),
  (11, .ireturn, 1)]
def mi_D_decidedBranches : mi_T := ("DataflowLab", ({ cls := "DataflowLab", name := "decidedBranches", desc := "()I" } : MethodName), prog_1_method_40_code, 1, (Option.some FieldType.int), [], tb_D_decidedBranches)
theorem mo_D_decidedBranches : mi_ok mi_D_decidedBranches := by
  show ∀ q ∈ tb_D_decidedBranches, decode prog_1_method_40_code q.1 = .ok q.2
  decide +kernel
theorem mw_D_decidedBranches : mi_w mi_D_decidedBranches 0 := ⟨tb_m 921 (by decide +kernel) (by decide +kernel), tb_m 144 (by decide +kernel) rfl, ⟨by decide +kernel, by decide +kernel, by decide +kernel⟩, by decide +kernel⟩
theorem mv_D_decidedBranches : mi_wV mi_D_decidedBranches := ⟨tb_m 919 (by decide +kernel) rfl, tb_m 920 (by decide +kernel) rfl⟩
def tb_D_requireLimit : List (Nat × Instr × Nat) := [(0, .iload_n 0, 1),
  (1, .iconst 1, 1),
  (2, .if_icmp .lt 10, 3),
  (5, .iload_n 0, 1),
  (6, .sipush 1000, 3),
  (9, .if_icmp .le 14, 3),
  (12, .new 105, 3),
  (15, .dup, 1),
  (16, .ldc_w 457, 3),
  (19, .invokespecial 109, 3),
  (22, .athrow, 1),
  (23, .return_, 1)]
def mi_D_requireLimit : mi_T := ("DataflowLab", ({ cls := "DataflowLab", name := "requireLimit", desc := "(I)V" } : MethodName), prog_1_method_68_code, 1, (Option.none : Option FieldType), [], tb_D_requireLimit)
theorem mo_D_requireLimit : mi_ok mi_D_requireLimit := by
  show ∀ q ∈ tb_D_requireLimit, decode prog_1_method_68_code q.1 = .ok q.2
  decide +kernel
theorem mw_D_requireLimit : mi_w mi_D_requireLimit 1 := ⟨tb_m 1574 (by decide +kernel) (by decide +kernel), tb_m 144 (by decide +kernel) rfl, ⟨by decide +kernel, by decide +kernel, by decide +kernel⟩, by decide +kernel⟩
theorem mv_D_requireLimit : Cond.static (mi_y mi_D_requireLimit) ∈ tb_G := tb_m 1573 (by decide +kernel) rfl
def tb_N_start : List (Nat × Instr × Nat) := [(0, .aload_n 0, 1),
  (1, .getfield 9, 3),
  (4, .iconst 0, 1),
  (5, .invokestatic 29, 3),
  (8, .aload_n 0, 1),
  (9, .getfield 15, 3),
  (12, .iconst 0, 1),
  (13, .invokestatic 29, 3),
  (16, .aload_n 0, 1),
  (17, .getfield 15, 3),
  (20, .iconst 0, 1),
  (21, .iconst 1, 1),
  (22, .invokestatic 33, 3),
  (25, .aload_n 0, 1),
  (26, .iconst 0, 1),
  (27, .putfield 37, 3),
  (30, .aload_n 0, 1),
  (31, .aload_n 1, 1),
  (32, .iconst 0, 1),
  (33, .invokevirtual 41, 3),
  (36, .putfield 47, 3),
  (39, .aload_n 0, 1),
  (40, .iconst 0, 1),
  (41, .putfield 50, 3),
  (44, .aload_n 0, 1),
  (45, .iconst (-1), 1),
  (46, .putfield 53, 3),
  (49, .aload_n 0, 1),
  (50, .iconst 0, 1),
  (51, .putfield 22, 3),
  (54, .return_, 1)]
def mi_N_start : mi_T := ("DataflowLab$Machine", ({ cls := "DataflowLab$Machine", name := "start", desc := "(LDataflowLab$Program;)V" } : MethodName), prog_8_method_3_code, 2, (Option.none : Option FieldType), [], tb_N_start)
theorem mo_N_start : mi_ok mi_N_start := by
  show ∀ q ∈ tb_N_start, decode prog_8_method_3_code q.1 = .ok q.2
  decide +kernel
theorem mw_N_start : mi_w mi_N_start 1 := ⟨tb_m 1031 (by decide +kernel) (by decide +kernel), tb_m 154 (by decide +kernel) rfl, ⟨by decide +kernel, by decide +kernel, by decide +kernel⟩, by decide +kernel⟩
theorem mv_N_start : mi_wV mi_N_start := ⟨tb_m 1029 (by decide +kernel) rfl, tb_m 1030 (by decide +kernel) rfl⟩
def tb_N_leaveBlock : List (Nat × Instr × Nat) := [(0, .aload_n 1, 1),
  (1, .iload_n 2, 1),
  (2, .invokevirtual 91, 3),
  (5, .ifCond .ne 9, 3),
  (8, .aload_n 0, 1),
  (9, .iconst 1, 1),
  (10, .putfield 22, 3),
  (13, .return_, 1),
  (14, .aload_n 1, 1),
  (15, .iload_n 2, 1),
  (16, .invokevirtual 91, 3),
  (19, .iconst 2, 1),
  (20, .if_icmp .ne 22, 3),
  (23, .aload_n 0, 1),
  (24, .getfield 9, 3),
  (27, .aload_n 1, 1),
  (28, .iload_n 2, 1),
  (29, .invokevirtual 94, 3),
  (32, .invokestatic 77, 3),
  (35, .ifCond .ne 7, 3),
  (38, .iconst 1, 1),
  (39, .goto 4, 3),
  (42, .iconst 0, 1),
  (43, .istore_n 3, 1),
  (44, .aload_n 1, 1),
  (45, .iload_n 2, 1),
  (46, .iload_n 3, 1),
  (47, .ifCond .eq 7, 3),
  (50, .iconst 1, 1),
  (51, .goto 4, 3),
  (54, .iconst 0, 1),
  (55, .invokevirtual 97, 3),
  (58, .istore 4, 2),
  (60, .aload_n 0, 1),
  (61, .getfield 15, 3),
  (64, .iload 4, 2),
  (66, .aload_n 0, 1),
  (67, .getfield 15, 3),
  (70, .iload 4, 2),
  (72, .invokestatic 77, 3),
  (75, .iconst 1, 1),
  (76, .iadd, 1),
  (77, .invokestatic 33, 3),
  (80, .aload_n 0, 1),
  (81, .aload_n 1, 1),
  (82, .iload 4, 2),
  (84, .invokevirtual 41, 3),
  (87, .putfield 47, 3),
  (90, .return_, 1)]
def mi_N_leaveBlock : mi_T := ("DataflowLab$Machine", ({ cls := "DataflowLab$Machine", name := "leaveBlock", desc := "(LDataflowLab$Program;I)V" } : MethodName), prog_8_method_9_code, 5, (Option.none : Option FieldType), [], tb_N_leaveBlock)
theorem mo_N_leaveBlock : mi_ok mi_N_leaveBlock := by
  show ∀ q ∈ tb_N_leaveBlock, decode prog_8_method_9_code q.1 = .ok q.2
  decide +kernel
theorem mw_N_leaveBlock : mi_w mi_N_leaveBlock 2 := ⟨tb_m 1058 (by decide +kernel) (by decide +kernel), tb_m 154 (by decide +kernel) rfl, ⟨by decide +kernel, by decide +kernel, by decide +kernel⟩, by decide +kernel⟩
theorem mv_N_leaveBlock : mi_wV mi_N_leaveBlock := ⟨tb_m 1057 (by decide +kernel) rfl, tb_m 36 (by decide +kernel) rfl⟩
def tb_N_execute : List (Nat × Instr × Nat) := [(0, .iload_n 1, 1),
  (1, .invokestatic 100, 3),
  (4, .istore_n 2, 1),
  (5, .aload_n 0, 1),
  (6, .getfield 9, 3),
  (9, .iload_n 1, 1),
  (10, .invokestatic 105, 3),
  (13, .invokestatic 77, 3),
  (16, .istore_n 3, 1),
  (17, .iload_n 2, 1),
  (18, .iconst 3, 1),
  (19, .if_icmp .ne 9, 3),
  (22, .aload_n 0, 1),
  (23, .iload_n 3, 1),
  (24, .putfield 53, 3),
  (27, .return_, 1),
  (28, .iload_n 3, 1),
  (29, .istore 4, 2),
  (31, .iload_n 2, 1),
  (32, .ifCond .ne 12, 3),
  (35, .iload_n 1, 1),
  (36, .invokestatic 108, 3),
  (39, .istore 4, 2),
  (41, .goto 29, 3),
  (44, .iload_n 2, 1),
  (45, .iconst 2, 1),
  (46, .if_icmp .ne 24, 3),
  (49, .iload_n 1, 1),
  (50, .invokestatic 111, 3),
  (53, .iload_n 3, 1),
  (54, .aload_n 0, 1),
  (55, .getfield 9, 3),
  (58, .iload_n 1, 1),
  (59, .invokestatic 114, 3),
  (62, .invokestatic 77, 3),
  (65, .invokestatic 117, 3),
  (68, .istore 4, 2),
  (70, .aload_n 0, 1),
  (71, .getfield 9, 3),
  (74, .iload_n 1, 1),
  (75, .invokestatic 121, 3),
  (78, .iload 4, 2),
  (80, .invokestatic 33, 3),
  (83, .aload_n 0, 1),
  (84, .dup, 1),
  (85, .getfield 37, 3),
  (88, .iconst 1, 1),
  (89, .iload_n 1, 1),
  (90, .invokestatic 121, 3),
  (93, .ishl, 1),
  (94, .ior, 1),
  (95, .putfield 37, 3),
  (98, .return_, 1)]
def mi_N_execute : mi_T := ("DataflowLab$Machine", ({ cls := "DataflowLab$Machine", name := "execute", desc := "(I)V" } : MethodName), prog_8_method_10_code, 5, (Option.none : Option FieldType), [], tb_N_execute)
theorem mo_N_execute : mi_ok mi_N_execute := by
  show ∀ q ∈ tb_N_execute, decode prog_8_method_10_code q.1 = .ok q.2
  decide +kernel
theorem mw_N_execute : mi_w mi_N_execute 1 := ⟨tb_m 1066 (by decide +kernel) (by decide +kernel), tb_m 154 (by decide +kernel) rfl, ⟨by decide +kernel, by decide +kernel, by decide +kernel⟩, by decide +kernel⟩
theorem mv_N_execute : mi_wV mi_N_execute := ⟨tb_m 1065 (by decide +kernel) rfl, tb_m 37 (by decide +kernel) rfl⟩
def tb_N_step : List (Nat × Instr × Nat) := [(0, .aload_n 0, 1),
  (1, .dup, 1),
  (2, .getfield 50, 3),
  (5, .iconst 1, 1),
  (6, .iadd, 1),
  (7, .putfield 50, 3),
  (10, .aload_n 1, 1),
  (11, .aload_n 0, 1),
  (12, .getfield 47, 3),
  (15, .invokevirtual 56, 3),
  (18, .iconst (-1), 1),
  (19, .if_icmp .ne 19, 3),
  (22, .aload_n 0, 1),
  (23, .aload_n 1, 1),
  (24, .aload_n 1, 1),
  (25, .aload_n 0, 1),
  (26, .getfield 47, 3),
  (29, .invokevirtual 59, 3),
  (32, .invokevirtual 62, 3),
  (35, .goto 28, 3),
  (38, .aload_n 0, 1),
  (39, .aload_n 1, 1),
  (40, .aload_n 0, 1),
  (41, .getfield 47, 3),
  (44, .invokevirtual 66, 3),
  (47, .invokevirtual 69, 3),
  (50, .aload_n 0, 1),
  (51, .aload_n 1, 1),
  (52, .aload_n 0, 1),
  (53, .getfield 47, 3),
  (56, .iconst 0, 1),
  (57, .invokevirtual 73, 3),
  (60, .putfield 47, 3),
  (63, .return_, 1)]
def mi_N_step : mi_T := ("DataflowLab$Machine", ({ cls := "DataflowLab$Machine", name := "step", desc := "(LDataflowLab$Program;)V" } : MethodName), prog_8_method_4_code, 2, (Option.none : Option FieldType), [], tb_N_step)
theorem mo_N_step : mi_ok mi_N_step := by
  show ∀ q ∈ tb_N_step, decode prog_8_method_4_code q.1 = .ok q.2
  decide +kernel
theorem mw_N_step : mi_w mi_N_step 1 := ⟨tb_m 1052 (by decide +kernel) (by decide +kernel), tb_m 154 (by decide +kernel) rfl, ⟨by decide +kernel, by decide +kernel, by decide +kernel⟩, by decide +kernel⟩
theorem mv_N_step : mi_wV mi_N_step := ⟨tb_m 1050 (by decide +kernel) rfl, tb_m 1051 (by decide +kernel) rfl⟩
def tb_N_run : List (Nat × Instr × Nat) := [(0, .aload_n 0, 1),
  (1, .aload_n 1, 1),
  (2, .invokevirtual 18, 3),
  (5, .iconst 0, 1),
  (6, .istore_n 3, 1),
  (7, .iload_n 3, 1),
  (8, .iload_n 2, 1),
  (9, .if_icmp .ge 21, 3),
  (12, .aload_n 0, 1),
  (13, .getfield 22, 3),
  (16, .ifCond .ne 14, 3),
  (19, .aload_n 0, 1),
  (20, .aload_n 1, 1),
  (21, .invokevirtual 26, 3),
  (24, .iinc 3 1, 3),
  (27, .goto (-20), 3),
  (30, .return_, 1)]
def mi_N_run : mi_T := ("DataflowLab$Machine", ({ cls := "DataflowLab$Machine", name := "run", desc := "(LDataflowLab$Program;I)V" } : MethodName), prog_8_method_2_code, 4, (Option.none : Option FieldType), [], tb_N_run)
theorem mo_N_run : mi_ok mi_N_run := by
  show ∀ q ∈ tb_N_run, decode prog_8_method_2_code q.1 = .ok q.2
  decide +kernel
theorem mw_N_run : mi_w mi_N_run 2 := ⟨tb_m 1579 (by decide +kernel) (by decide +kernel), tb_m 154 (by decide +kernel) rfl, ⟨by decide +kernel, by decide +kernel, by decide +kernel⟩, by decide +kernel⟩
theorem mv_N_run : mi_wV mi_N_run := ⟨tb_m 1577 (by decide +kernel) rfl, tb_m 1578 (by decide +kernel) rfl⟩
def tb_D_runSteps : List (Nat × Instr × Nat) := [(0, .iload_n 1, 1),
  (1, .invokestatic 297, 3),
  (4, .aload_n 0, 1),
  (5, .getfield 79, 3),
  (8, .aload_n 0, 1),
  (9, .getfield 87, 3),
  (12, .iload_n 1, 1),
  (13, .invokevirtual 300, 3),
  (16, .aload_n 0, 1),
  (17, .getfield 79, 3),
  (20, .getfield 304, 3),
  (23, .ireturn, 1)]
def mi_D_runSteps : mi_T := ("DataflowLab", ({ cls := "DataflowLab", name := "runSteps", desc := "(I)I" } : MethodName), prog_1_method_41_code, 2, (Option.some FieldType.int), [], tb_D_runSteps)
theorem mo_D_runSteps : mi_ok mi_D_runSteps := by
  show ∀ q ∈ tb_D_runSteps, decode prog_1_method_41_code q.1 = .ok q.2
  decide +kernel
theorem mw_D_runSteps : mi_w mi_D_runSteps 1 := ⟨tb_m 1571 (by decide +kernel) (by decide +kernel), tb_m 144 (by decide +kernel) rfl, ⟨by decide +kernel, by decide +kernel, by decide +kernel⟩, by decide +kernel⟩
theorem mv_D_runSteps : mi_wV mi_D_runSteps := ⟨tb_m 1569 (by decide +kernel) rfl, tb_m 1570 (by decide +kernel) rfl⟩
def tb_D_runEnds : List (Nat × Instr × Nat) := [(0, .iload_n 1, 1),
  (1, .invokestatic 297, 3),
  (4, .aload_n 0, 1),
  (5, .getfield 79, 3),
  (8, .aload_n 0, 1),
  (9, .getfield 87, 3),
  (12, .iload_n 1, 1),
  (13, .invokevirtual 300, 3),
  (16, .aload_n 0, 1),
  (17, .getfield 79, 3),
  (20, .getfield 307, 3),
  (23, .ireturn, 1)]
def mi_D_runEnds : mi_T := ("DataflowLab", ({ cls := "DataflowLab", name := "runEnds", desc := "(I)Z" } : MethodName), prog_1_method_42_code, 2, (Option.some FieldType.boolean), [], tb_D_runEnds)
theorem mo_D_runEnds : mi_ok mi_D_runEnds := by
  show ∀ q ∈ tb_D_runEnds, decode prog_1_method_42_code q.1 = .ok q.2
  decide +kernel
theorem mw_D_runEnds : mi_w mi_D_runEnds 1 := ⟨tb_m 1588 (by decide +kernel) (by decide +kernel), tb_m 144 (by decide +kernel) rfl, ⟨by decide +kernel, by decide +kernel, by decide +kernel⟩, by decide +kernel⟩
theorem mv_D_runEnds : mi_wV mi_D_runEnds := ⟨tb_m 1586 (by decide +kernel) rfl, tb_m 1587 (by decide +kernel) rfl⟩
def tb_D_requireSteps : List (Nat × Instr × Nat) := [(0, .iload_n 0, 1),
  (1, .ifCond .lt 10, 3),
  (4, .iload_n 0, 1),
  (5, .sipush 1000, 3),
  (8, .if_icmp .le 14, 3),
  (11, .new 105, 3),
  (14, .dup, 1),
  (15, .ldc_w 459, 3),
  (18, .invokespecial 109, 3),
  (21, .athrow, 1),
  (22, .return_, 1)]
def mi_D_requireSteps : mi_T := ("DataflowLab", ({ cls := "DataflowLab", name := "requireSteps", desc := "(I)V" } : MethodName), prog_1_method_69_code, 1, (Option.none : Option FieldType), [], tb_D_requireSteps)
theorem mo_D_requireSteps : mi_ok mi_D_requireSteps := by
  show ∀ q ∈ tb_D_requireSteps, decode prog_1_method_69_code q.1 = .ok q.2
  decide +kernel
theorem mw_D_requireSteps : mi_w mi_D_requireSteps 1 := ⟨tb_m 1598 (by decide +kernel) (by decide +kernel), tb_m 144 (by decide +kernel) rfl, ⟨by decide +kernel, by decide +kernel, by decide +kernel⟩, by decide +kernel⟩
theorem mv_D_requireSteps : Cond.static (mi_y mi_D_requireSteps) ∈ tb_G := tb_m 1597 (by decide +kernel) rfl
def tb_N_value : List (Nat × Instr × Nat) := [(0, .aload_n 0, 1),
  (1, .getfield 9, 3),
  (4, .iload_n 1, 1),
  (5, .invokestatic 77, 3),
  (8, .ireturn, 1)]
def mi_N_value : mi_T := ("DataflowLab$Machine", ({ cls := "DataflowLab$Machine", name := "value", desc := "(I)I" } : MethodName), prog_8_method_5_code, 2, (Option.some FieldType.int), [], tb_N_value)
theorem mo_N_value : mi_ok mi_N_value := by
  show ∀ q ∈ tb_N_value, decode prog_8_method_5_code q.1 = .ok q.2
  decide +kernel
theorem mw_N_value : mi_w mi_N_value 1 := ⟨tb_m 1603 (by decide +kernel) (by decide +kernel), tb_m 154 (by decide +kernel) rfl, ⟨by decide +kernel, by decide +kernel, by decide +kernel⟩, by decide +kernel⟩
theorem mv_N_value : mi_wV mi_N_value := ⟨tb_m 1601 (by decide +kernel) rfl, tb_m 1602 (by decide +kernel) rfl⟩
def tb_D_valueAfter : List (Nat × Instr × Nat) := [(0, .iload_n 1, 1),
  (1, .invokestatic 311, 3),
  (4, .iload_n 2, 1),
  (5, .invokestatic 199, 3),
  (8, .aload_n 0, 1),
  (9, .getfield 79, 3),
  (12, .aload_n 0, 1),
  (13, .getfield 87, 3),
  (16, .iload_n 1, 1),
  (17, .invokevirtual 300, 3),
  (20, .aload_n 0, 1),
  (21, .getfield 79, 3),
  (24, .iload_n 2, 1),
  (25, .invokevirtual 314, 3),
  (28, .ireturn, 1)]
def mi_D_valueAfter : mi_T := ("DataflowLab", ({ cls := "DataflowLab", name := "valueAfter", desc := "(II)I" } : MethodName), prog_1_method_43_code, 3, (Option.some FieldType.int), [], tb_D_valueAfter)
theorem mo_D_valueAfter : mi_ok mi_D_valueAfter := by
  show ∀ q ∈ tb_D_valueAfter, decode prog_1_method_43_code q.1 = .ok q.2
  decide +kernel
theorem mw_D_valueAfter : mi_w mi_D_valueAfter 2 := ⟨tb_m 1595 (by decide +kernel) (by decide +kernel), tb_m 144 (by decide +kernel) rfl, ⟨by decide +kernel, by decide +kernel, by decide +kernel⟩, by decide +kernel⟩
theorem mv_D_valueAfter : mi_wV mi_D_valueAfter := ⟨tb_m 1593 (by decide +kernel) rfl, tb_m 1594 (by decide +kernel) rfl⟩
def tb_D_lastShown : List (Nat × Instr × Nat) := [(0, .iload_n 1, 1),
  (1, .invokestatic 311, 3),
  (4, .aload_n 0, 1),
  (5, .getfield 79, 3),
  (8, .aload_n 0, 1),
  (9, .getfield 87, 3),
  (12, .iload_n 1, 1),
  (13, .invokevirtual 300, 3),
  (16, .aload_n 0, 1),
  (17, .getfield 79, 3),
  (20, .getfield 317, 3),
  (23, .ireturn, 1)]
def mi_D_lastShown : mi_T := ("DataflowLab", ({ cls := "DataflowLab", name := "lastShown", desc := "(I)I" } : MethodName), prog_1_method_44_code, 2, (Option.some FieldType.int), [], tb_D_lastShown)
theorem mo_D_lastShown : mi_ok mi_D_lastShown := by
  show ∀ q ∈ tb_D_lastShown, decode prog_1_method_44_code q.1 = .ok q.2
  decide +kernel
theorem mw_D_lastShown : mi_w mi_D_lastShown 1 := ⟨tb_m 1610 (by decide +kernel) (by decide +kernel), tb_m 144 (by decide +kernel) rfl, ⟨by decide +kernel, by decide +kernel, by decide +kernel⟩, by decide +kernel⟩
theorem mv_D_lastShown : mi_wV mi_D_lastShown := ⟨tb_m 1608 (by decide +kernel) rfl, tb_m 1609 (by decide +kernel) rfl⟩
def tb_N_entriesInto : List (Nat × Instr × Nat) := [(0, .aload_n 0, 1),
  (1, .getfield 15, 3),
  (4, .iload_n 1, 1),
  (5, .invokestatic 77, 3),
  (8, .ireturn, 1)]
def mi_N_entriesInto : mi_T := ("DataflowLab$Machine", ({ cls := "DataflowLab$Machine", name := "entriesInto", desc := "(I)I" } : MethodName), prog_8_method_6_code, 2, (Option.some FieldType.int), [], tb_N_entriesInto)
theorem mo_N_entriesInto : mi_ok mi_N_entriesInto := by
  show ∀ q ∈ tb_N_entriesInto, decode prog_8_method_6_code q.1 = .ok q.2
  decide +kernel
theorem mw_N_entriesInto : mi_w mi_N_entriesInto 1 := ⟨tb_m 1621 (by decide +kernel) (by decide +kernel), tb_m 154 (by decide +kernel) rfl, ⟨by decide +kernel, by decide +kernel, by decide +kernel⟩, by decide +kernel⟩
theorem mv_N_entriesInto : mi_wV mi_N_entriesInto := ⟨tb_m 1619 (by decide +kernel) rfl, tb_m 1620 (by decide +kernel) rfl⟩
def tb_D_visits : List (Nat × Instr × Nat) := [(0, .aload_n 0, 1),
  (1, .iload_n 1, 1),
  (2, .invokevirtual 137, 3),
  (5, .iload_n 2, 1),
  (6, .invokestatic 311, 3),
  (9, .aload_n 0, 1),
  (10, .getfield 79, 3),
  (13, .aload_n 0, 1),
  (14, .getfield 87, 3),
  (17, .iload_n 2, 1),
  (18, .invokevirtual 300, 3),
  (21, .aload_n 0, 1),
  (22, .getfield 79, 3),
  (25, .iload_n 1, 1),
  (26, .invokevirtual 320, 3),
  (29, .ireturn, 1)]
def mi_D_visits : mi_T := ("DataflowLab", ({ cls := "DataflowLab", name := "visits", desc := "(II)I" } : MethodName), prog_1_method_45_code, 3, (Option.some FieldType.int), [], tb_D_visits)
theorem mo_D_visits : mi_ok mi_D_visits := by
  show ∀ q ∈ tb_D_visits, decode prog_1_method_45_code q.1 = .ok q.2
  decide +kernel
theorem mw_D_visits : mi_w mi_D_visits 2 := ⟨tb_m 1617 (by decide +kernel) (by decide +kernel), tb_m 144 (by decide +kernel) rfl, ⟨by decide +kernel, by decide +kernel, by decide +kernel⟩, by decide +kernel⟩
theorem mv_D_visits : mi_wV mi_D_visits := ⟨tb_m 1615 (by decide +kernel) rfl, tb_m 1616 (by decide +kernel) rfl⟩
def tb_N_contradicts_a : List (Nat × Instr × Nat) := [(0, .iconst 0, 1),
  (1, .istore_n 2, 1),
  (2, .iload_n 2, 1),
  (3, .bipush 8, 2),
  (5, .if_icmp .ge 38, 3),
  (8, .aload_n 1, 1),
  (9, .aload_n 0, 1),
  (10, .getfield 47, 3),
  (13, .iload_n 2, 1),
  (14, .invokevirtual 81, 3),
  (17, .istore_n 3, 1),
  (18, .iload_n 3, 1),
  (19, .iconst (-1), 1),
  (20, .if_icmp .eq 17, 3),
  (23, .iload_n 3, 1),
  (24, .aload_n 0, 1),
  (25, .getfield 9, 3),
  (28, .iload_n 2, 1),
  (29, .invokestatic 77, 3),
  (32, .if_icmp .eq 5, 3),
  (35, .iconst 1, 1),
  (36, .ireturn, 1),
  (37, .iinc 2 1, 3),
  (40, .goto (-38), 3),
  (43, .iconst 0, 1),
  (44, .ireturn, 1)]
def mi_N_contradicts_a : mi_T := ("DataflowLab$Machine", ({ cls := "DataflowLab$Machine", name := "contradicts", desc := "(LDataflowLab$Constants;)Z" } : MethodName), prog_8_method_7_code, 4, (Option.some FieldType.boolean), [], tb_N_contradicts_a)
theorem mo_N_contradicts_a : mi_ok mi_N_contradicts_a := by
  show ∀ q ∈ tb_N_contradicts_a, decode prog_8_method_7_code q.1 = .ok q.2
  decide +kernel
theorem mw_N_contradicts_a : mi_w mi_N_contradicts_a 1 := ⟨tb_m 1038 (by decide +kernel) (by decide +kernel), tb_m 154 (by decide +kernel) rfl, ⟨by decide +kernel, by decide +kernel, by decide +kernel⟩, by decide +kernel⟩
theorem mv_N_contradicts_a : mi_wV mi_N_contradicts_a := ⟨tb_m 1036 (by decide +kernel) rfl, tb_m 1037 (by decide +kernel) rfl⟩
def tb_N_contradicts_b : List (Nat × Instr × Nat) := [(0, .aload_n 1, 1),
  (1, .aload_n 0, 1),
  (2, .getfield 47, 3),
  (5, .invokevirtual 86, 3),
  (8, .aload_n 0, 1),
  (9, .getfield 37, 3),
  (12, .ior, 1),
  (13, .sipush 255, 3),
  (16, .iand, 1),
  (17, .sipush 255, 3),
  (20, .if_icmp .eq 7, 3),
  (23, .iconst 1, 1),
  (24, .goto 4, 3),
  (27, .iconst 0, 1),
  (28, .ireturn, 1)]
def mi_N_contradicts_b : mi_T := ("DataflowLab$Machine", ({ cls := "DataflowLab$Machine", name := "contradicts", desc := "(LDataflowLab$Reaching;)Z" } : MethodName), prog_8_method_8_code, 2, (Option.some FieldType.boolean), [], tb_N_contradicts_b)
theorem mo_N_contradicts_b : mi_ok mi_N_contradicts_b := by
  show ∀ q ∈ tb_N_contradicts_b, decode prog_8_method_8_code q.1 = .ok q.2
  decide +kernel
theorem mw_N_contradicts_b : mi_w mi_N_contradicts_b 1 := ⟨tb_m 1044 (by decide +kernel) (by decide +kernel), tb_m 154 (by decide +kernel) rfl, ⟨by decide +kernel, by decide +kernel, by decide +kernel⟩, by decide +kernel⟩
theorem mv_N_contradicts_b : mi_wV mi_N_contradicts_b := ⟨tb_m 1042 (by decide +kernel) rfl, tb_m 1043 (by decide +kernel) rfl⟩
def tb_D_auditDifference : List (Nat × Instr × Nat) := [(0, .aload_n 0, 1),
  (1, .invokevirtual 284, 3),
  (4, .astore_n 1, 1),
  (5, .aload_n 0, 1),
  (6, .invokevirtual 184, 3),
  (9, .astore_n 2, 1),
  (10, .iconst 0, 1),
  (11, .istore_n 3, 1),
  (12, .aload_n 0, 1),
  (13, .getfield 79, 3),
  (16, .aload_n 0, 1),
  (17, .getfield 87, 3),
  (20, .invokevirtual 323, 3),
  (23, .iconst 0, 1),
  (24, .istore 4, 2),
  (26, .iload 4, 2),
  (28, .sipush 200, 3),
  (31, .if_icmp .ge 68, 3),
  (34, .aload_n 0, 1),
  (35, .getfield 79, 3),
  (38, .getfield 307, 3),
  (41, .ifCond .ne 58, 3),
  (44, .iload_n 3, 1),
  (45, .aload_n 0, 1),
  (46, .getfield 79, 3),
  (49, .aload_n 1, 1),
  (50, .invokevirtual 326, 3),
  (53, .ifCond .eq 7, 3),
  (56, .iconst 1, 1),
  (57, .goto 4, 3),
  (60, .iconst 0, 1),
  (61, .iadd, 1),
  (62, .istore_n 3, 1),
  (63, .iload_n 3, 1),
  (64, .aload_n 0, 1),
  (65, .getfield 79, 3),
  (68, .aload_n 2, 1),
  (69, .invokevirtual 330, 3),
  (72, .ifCond .eq 7, 3),
  (75, .iconst 1, 1),
  (76, .goto 4, 3),
  (79, .iconst 0, 1),
  (80, .iadd, 1),
  (81, .istore_n 3, 1),
  (82, .aload_n 0, 1),
  (83, .getfield 79, 3),
  (86, .aload_n 0, 1),
  (87, .getfield 87, 3),
  (90, .invokevirtual 333, 3),
  (93, .iinc 4 1, 3),
  (96, .goto (-70), 3),
  (99, .iload_n 3, 1),
  (100, .ireturn, 1)]
def mi_D_auditDifference : mi_T := ("DataflowLab", ({ cls := "DataflowLab", name := "auditDifference", desc := "()I" } : MethodName), prog_1_method_46_code, 5, (Option.some FieldType.int), [], tb_D_auditDifference)
theorem mo_D_auditDifference : mi_ok mi_D_auditDifference := by
  show ∀ q ∈ tb_D_auditDifference, decode prog_1_method_46_code q.1 = .ok q.2
  decide +kernel
theorem mw_D_auditDifference : mi_w mi_D_auditDifference 0 := ⟨tb_m 994 (by decide +kernel) (by decide +kernel), tb_m 144 (by decide +kernel) rfl, ⟨by decide +kernel, by decide +kernel, by decide +kernel⟩, by decide +kernel⟩
theorem mv_D_auditDifference : mi_wV mi_D_auditDifference := ⟨tb_m 992 (by decide +kernel) rfl, tb_m 993 (by decide +kernel) rfl⟩
def tb_P_countDefinitions : List (Nat × Instr × Nat) := [(0, .iconst 0, 1),
  (1, .istore_n 1, 1),
  (2, .iconst 0, 1),
  (3, .istore_n 2, 1),
  (4, .iload_n 2, 1),
  (5, .aload_n 0, 1),
  (6, .getfield 34, 3),
  (9, .if_icmp .ge 26, 3),
  (12, .iload_n 1, 1),
  (13, .aload_n 0, 1),
  (14, .iload_n 2, 1),
  (15, .invokevirtual 45, 3),
  (18, .iconst (-1), 1),
  (19, .if_icmp .ne 7, 3),
  (22, .iconst 0, 1),
  (23, .goto 4, 3),
  (26, .iconst 1, 1),
  (27, .iadd, 1),
  (28, .istore_n 1, 1),
  (29, .iinc 2 1, 3),
  (32, .goto (-28), 3),
  (35, .iload_n 1, 1),
  (36, .ireturn, 1)]
def mi_P_countDefinitions : mi_T := ("DataflowLab$Program", ({ cls := "DataflowLab$Program", name := "countDefinitions", desc := "()I" } : MethodName), prog_10_method_12_code, 3, (Option.some FieldType.int), [], tb_P_countDefinitions)
theorem mo_P_countDefinitions : mi_ok mi_P_countDefinitions := by
  show ∀ q ∈ tb_P_countDefinitions, decode prog_10_method_12_code q.1 = .ok q.2
  decide +kernel
theorem mw_P_countDefinitions : mi_w mi_P_countDefinitions 0 := ⟨tb_m 1082 (by decide +kernel) (by decide +kernel), tb_m 145 (by decide +kernel) rfl, ⟨by decide +kernel, by decide +kernel, by decide +kernel⟩, by decide +kernel⟩
theorem mv_P_countDefinitions : mi_wV mi_P_countDefinitions := ⟨tb_m 1080 (by decide +kernel) rfl, tb_m 1081 (by decide +kernel) rfl⟩
def tb_D_deadShare : List (Nat × Instr × Nat) := [(0, .aload_n 0, 1),
  (1, .getfield 87, 3),
  (4, .invokevirtual 336, 3),
  (7, .istore_n 1, 1),
  (8, .iload_n 1, 1),
  (9, .ifCond .ne 5, 3),
  (12, .fconst 0, 1),
  (13, .freturn, 1),
  (14, .aload_n 0, 1),
  (15, .invokevirtual 225, 3),
  (18, .aload_n 0, 1),
  (19, .getfield 87, 3),
  (22, .invokevirtual 242, 3),
  (25, .i2f, 1),
  (26, .iload_n 1, 1),
  (27, .i2f, 1),
  (28, .fdiv, 1),
  (29, .freturn, 1)]
def mi_D_deadShare : mi_T := ("DataflowLab", ({ cls := "DataflowLab", name := "deadShare", desc := "()F" } : MethodName), prog_1_method_47_code, 2, (Option.some FieldType.float), [], tb_D_deadShare)
theorem mo_D_deadShare : mi_ok mi_D_deadShare := by
  show ∀ q ∈ tb_D_deadShare, decode prog_1_method_47_code q.1 = .ok q.2
  decide +kernel
theorem mw_D_deadShare : mi_w mi_D_deadShare 0 := ⟨tb_m 1078 (by decide +kernel) (by decide +kernel), tb_m 144 (by decide +kernel) rfl, ⟨by decide +kernel, by decide +kernel, by decide +kernel⟩, by decide +kernel⟩
theorem mv_D_deadShare : mi_wV mi_D_deadShare := ⟨tb_m 1076 (by decide +kernel) rfl, tb_m 1077 (by decide +kernel) rfl⟩
def tb_L_sumLive : List (Nat × Instr × Nat) := [(0, .iconst 0, 1),
  (1, .istore_n 2, 1),
  (2, .iconst 0, 1),
  (3, .istore_n 3, 1),
  (4, .iload_n 3, 1),
  (5, .aload_n 1, 1),
  (6, .getfield 49, 3),
  (9, .if_icmp .ge 23, 3),
  (12, .iload_n 2, 1),
  (13, .aload_n 0, 1),
  (14, .getfield 9, 3),
  (17, .iload_n 3, 1),
  (18, .invokestatic 37, 3),
  (21, .invokestatic 56, 3),
  (24, .iadd, 1),
  (25, .istore_n 2, 1),
  (26, .iinc 3 1, 3),
  (29, .goto (-25), 3),
  (32, .iload_n 2, 1),
  (33, .ireturn, 1)]
def mi_L_sumLive : mi_T := ("DataflowLab$Liveness", ({ cls := "DataflowLab$Liveness", name := "sumLive", desc := "(LDataflowLab$Program;)I" } : MethodName), prog_7_method_7_code, 4, (Option.some FieldType.int), [], tb_L_sumLive)
theorem mo_L_sumLive : mi_ok mi_L_sumLive := by
  show ∀ q ∈ tb_L_sumLive, decode prog_7_method_7_code q.1 = .ok q.2
  decide +kernel
theorem mw_L_sumLive : mi_w mi_L_sumLive 1 := ⟨tb_m 1091 (by decide +kernel) (by decide +kernel), tb_m 151 (by decide +kernel) rfl, ⟨by decide +kernel, by decide +kernel, by decide +kernel⟩, by decide +kernel⟩
theorem mv_L_sumLive : mi_wV mi_L_sumLive := ⟨tb_m 1089 (by decide +kernel) rfl, tb_m 1090 (by decide +kernel) rfl⟩
def tb_D_meanLive : List (Nat × Instr × Nat) := [(0, .aload_n 0, 1),
  (1, .getfield 87, 3),
  (4, .getfield 134, 3),
  (7, .ifCond .ne 5, 3),
  (10, .dconst 0, 1),
  (11, .dreturn, 1),
  (12, .aload_n 0, 1),
  (13, .invokevirtual 225, 3),
  (16, .aload_n 0, 1),
  (17, .getfield 87, 3),
  (20, .invokevirtual 339, 3),
  (23, .i2d, 1),
  (24, .aload_n 0, 1),
  (25, .getfield 87, 3),
  (28, .getfield 134, 3),
  (31, .i2d, 1),
  (32, .ddiv, 1),
  (33, .dreturn, 1)]
def mi_D_meanLive : mi_T := ("DataflowLab", ({ cls := "DataflowLab", name := "meanLive", desc := "()D" } : MethodName), prog_1_method_48_code, 1, (Option.some FieldType.double), [], tb_D_meanLive)
theorem mo_D_meanLive : mi_ok mi_D_meanLive := by
  show ∀ q ∈ tb_D_meanLive, decode prog_1_method_48_code q.1 = .ok q.2
  decide +kernel
theorem mw_D_meanLive : mi_w mi_D_meanLive 0 := ⟨tb_m 1087 (by decide +kernel) (by decide +kernel), tb_m 144 (by decide +kernel) rfl, ⟨by decide +kernel, by decide +kernel, by decide +kernel⟩, by decide +kernel⟩
theorem mv_D_meanLive : mi_wV mi_D_meanLive := ⟨tb_m 1085 (by decide +kernel) rfl, tb_m 1086 (by decide +kernel) rfl⟩
def tb_D_requirePosition : List (Nat × Instr × Nat) := [(0, .iload_n 2, 1),
  (1, .ifCond .lt 15, 3),
  (4, .iload_n 2, 1),
  (5, .aload_n 0, 1),
  (6, .getfield 87, 3),
  (9, .iload_n 1, 1),
  (10, .invokevirtual 140, 3),
  (13, .if_icmp .le 14, 3),
  (16, .new 105, 3),
  (19, .dup, 1),
  (20, .ldc_w 443, 3),
  (23, .invokespecial 109, 3),
  (26, .athrow, 1),
  (27, .return_, 1)]
def mi_D_requirePosition : mi_T := ("DataflowLab", ({ cls := "DataflowLab", name := "requirePosition", desc := "(II)V" } : MethodName), prog_1_method_63_code, 3, (Option.none : Option FieldType), [], tb_D_requirePosition)
theorem mo_D_requirePosition : mi_ok mi_D_requirePosition := by
  show ∀ q ∈ tb_D_requirePosition, decode prog_1_method_63_code q.1 = .ok q.2
  decide +kernel
theorem mw_D_requirePosition : mi_w mi_D_requirePosition 2 := ⟨tb_m 1632 (by decide +kernel) (by decide +kernel), tb_m 144 (by decide +kernel) rfl, ⟨by decide +kernel, by decide +kernel, by decide +kernel⟩, by decide +kernel⟩
theorem mv_D_requirePosition : mi_wV mi_D_requirePosition := ⟨tb_m 1631 (by decide +kernel) rfl, tb_m 43 (by decide +kernel) rfl⟩
def tb_D_requireConstant : List (Nat × Instr × Nat) := [(0, .iload_n 0, 1),
  (1, .ifCond .lt 10, 3),
  (4, .iload_n 0, 1),
  (5, .sipush 999, 3),
  (8, .if_icmp .le 14, 3),
  (11, .new 105, 3),
  (14, .dup, 1),
  (15, .ldc_w 453, 3),
  (18, .invokespecial 109, 3),
  (21, .athrow, 1),
  (22, .return_, 1)]
def mi_D_requireConstant : mi_T := ("DataflowLab", ({ cls := "DataflowLab", name := "requireConstant", desc := "(I)V" } : MethodName), prog_1_method_66_code, 1, (Option.none : Option FieldType), [], tb_D_requireConstant)
theorem mo_D_requireConstant : mi_ok mi_D_requireConstant := by
  show ∀ q ∈ tb_D_requireConstant, decode prog_1_method_66_code q.1 = .ok q.2
  decide +kernel
theorem mw_D_requireConstant : mi_w mi_D_requireConstant 1 := ⟨tb_m 1636 (by decide +kernel) (by decide +kernel), tb_m 144 (by decide +kernel) rfl, ⟨by decide +kernel, by decide +kernel, by decide +kernel⟩, by decide +kernel⟩
theorem mv_D_requireConstant : Cond.static (mi_y mi_D_requireConstant) ∈ tb_G := tb_m 1635 (by decide +kernel) rfl
def tb_D_requireRoom : List (Nat × Instr × Nat) := [(0, .aload_n 0, 1),
  (1, .getfield 87, 3),
  (4, .invokevirtual 445, 3),
  (7, .ifCond .eq 14, 3),
  (10, .new 94, 3),
  (13, .dup, 1),
  (14, .ldc_w 449, 3),
  (17, .invokespecial 98, 3),
  (20, .athrow, 1),
  (21, .return_, 1)]
def mi_D_requireRoom : mi_T := ("DataflowLab", ({ cls := "DataflowLab", name := "requireRoom", desc := "()V" } : MethodName), prog_1_method_64_code, 1, (Option.none : Option FieldType), [], tb_D_requireRoom)
theorem mo_D_requireRoom : mi_ok mi_D_requireRoom := by
  show ∀ q ∈ tb_D_requireRoom, decode prog_1_method_64_code q.1 = .ok q.2
  decide +kernel
theorem mw_D_requireRoom : mi_w mi_D_requireRoom 0 := ⟨tb_m 1641 (by decide +kernel) (by decide +kernel), tb_m 144 (by decide +kernel) rfl, ⟨by decide +kernel, by decide +kernel, by decide +kernel⟩, by decide +kernel⟩
theorem mv_D_requireRoom : mi_wV mi_D_requireRoom := ⟨tb_m 1640 (by decide +kernel) rfl, tb_m 44 (by decide +kernel) rfl⟩
def tb_O_set : List (Nat × Instr × Nat) := [(0, .iconst 0, 1),
  (1, .iload_n 0, 1),
  (2, .iconst 0, 1),
  (3, .iconst 0, 1),
  (4, .iconst 0, 1),
  (5, .iload_n 1, 1),
  (6, .invokestatic 9, 3),
  (9, .ireturn, 1)]
def mi_O_set : mi_T := ("DataflowLab$Code", ({ cls := "DataflowLab$Code", name := "set", desc := "(II)I" } : MethodName), prog_3_method_3_code, 2, (Option.some FieldType.int), [], tb_O_set)
theorem mo_O_set : mi_ok mi_O_set := by
  show ∀ q ∈ tb_O_set, decode prog_3_method_3_code q.1 = .ok q.2
  decide +kernel
theorem mw_O_set : mi_w mi_O_set 2 := ⟨tb_m 1127 (by decide +kernel) (by decide +kernel), tb_m 160 (by decide +kernel) rfl, ⟨by decide +kernel, by decide +kernel, by decide +kernel⟩, by decide +kernel⟩
theorem mv_O_set : Cond.static (mi_y mi_O_set) ∈ tb_G := tb_m 1126 (by decide +kernel) rfl
def tb_P_startOf : List (Nat × Instr × Nat) := [(0, .aload_n 0, 1),
  (1, .getfield 15, 3),
  (4, .iload_n 1, 1),
  (5, .invokestatic 41, 3),
  (8, .ireturn, 1)]
def mi_P_startOf : mi_T := ("DataflowLab$Program", ({ cls := "DataflowLab$Program", name := "startOf", desc := "(I)I" } : MethodName), prog_10_method_6_code, 2, (Option.some FieldType.int), [], tb_P_startOf)
theorem mo_P_startOf : mi_ok mi_P_startOf := by
  show ∀ q ∈ tb_P_startOf, decode prog_10_method_6_code q.1 = .ok q.2
  decide +kernel
theorem mw_P_startOf : mi_w mi_P_startOf 1 := ⟨tb_m 1651 (by decide +kernel) (by decide +kernel), tb_m 145 (by decide +kernel) rfl, ⟨by decide +kernel, by decide +kernel, by decide +kernel⟩, by decide +kernel⟩
theorem mv_P_startOf : mi_wV mi_P_startOf := ⟨tb_m 1649 (by decide +kernel) rfl, tb_m 1650 (by decide +kernel) rfl⟩
def tb_H_keep : List (Nat × Instr × Nat) := [(0, .aload_n 0, 1),
  (1, .getfield 21, 3),
  (4, .ifCond .lt 15, 3),
  (7, .aload_n 0, 1),
  (8, .getfield 21, 3),
  (11, .aload_n 0, 1),
  (12, .getfield 11, 3),
  (15, .arraylength, 1),
  (16, .if_icmp .lt 8, 3),
  (19, .aload_n 0, 1),
  (20, .iconst 0, 1),
  (21, .putfield 21, 3),
  (24, .aload_n 0, 1),
  (25, .getfield 11, 3),
  (28, .aload_n 0, 1),
  (29, .getfield 21, 3),
  (32, .aaload, 1),
  (33, .astore_n 2, 1),
  (34, .aload_n 2, 1),
  (35, .ifnonnull 21, 3),
  (38, .new 9, 3),
  (41, .dup, 1),
  (42, .invokespecial 24, 3),
  (45, .astore_n 2, 1),
  (46, .aload_n 0, 1),
  (47, .getfield 11, 3),
  (50, .aload_n 0, 1),
  (51, .getfield 21, 3),
  (54, .aload_n 2, 1),
  (55, .aastore, 1),
  (56, .aload_n 2, 1),
  (57, .aload_n 1, 1),
  (58, .invokevirtual 25, 3),
  (61, .aload_n 0, 1),
  (62, .aload_n 0, 1),
  (63, .getfield 21, 3),
  (66, .iconst 1, 1),
  (67, .iadd, 1),
  (68, .bipush 6, 2),
  (70, .if_icmp .ge 12, 3),
  (73, .aload_n 0, 1),
  (74, .getfield 21, 3),
  (77, .iconst 1, 1),
  (78, .iadd, 1),
  (79, .goto 4, 3),
  (82, .iconst 0, 1),
  (83, .putfield 21, 3),
  (86, .aload_n 0, 1),
  (87, .aload_n 0, 1),
  (88, .getfield 17, 3),
  (91, .bipush 6, 2),
  (93, .if_icmp .ge 12, 3),
  (96, .aload_n 0, 1),
  (97, .getfield 17, 3),
  (100, .iconst 1, 1),
  (101, .iadd, 1),
  (102, .goto 5, 3),
  (105, .bipush 6, 2),
  (107, .putfield 17, 3),
  (110, .return_, 1)]
def mi_H_keep : mi_T := ("DataflowLab$History", ({ cls := "DataflowLab$History", name := "keep", desc := "(LDataflowLab$Program;)V" } : MethodName), prog_6_method_3_code, 3, (Option.none : Option FieldType), [], tb_H_keep)
theorem mo_H_keep : mi_ok mi_H_keep := by
  show ∀ q ∈ tb_H_keep, decode prog_6_method_3_code q.1 = .ok q.2
  decide +kernel
theorem mw_H_keep : mi_w mi_H_keep 1 := ⟨tb_m 1099 (by decide +kernel) (by decide +kernel), tb_m 148 (by decide +kernel) rfl, ⟨by decide +kernel, by decide +kernel, by decide +kernel⟩, by decide +kernel⟩
theorem mv_H_keep : mi_wV mi_H_keep := ⟨tb_m 1097 (by decide +kernel) rfl, tb_m 1098 (by decide +kernel) rfl⟩
def tb_P_moveStarts : List (Nat × Instr × Nat) := [(0, .iload_n 1, 1),
  (1, .iconst 1, 1),
  (2, .iadd, 1),
  (3, .istore_n 3, 1),
  (4, .iload_n 3, 1),
  (5, .aload_n 0, 1),
  (6, .getfield 30, 3),
  (9, .if_icmp .gt 27, 3),
  (12, .aload_n 0, 1),
  (13, .getfield 15, 3),
  (16, .iload_n 3, 1),
  (17, .aload_n 0, 1),
  (18, .getfield 15, 3),
  (21, .iload_n 3, 1),
  (22, .invokestatic 41, 3),
  (25, .iload_n 2, 1),
  (26, .iadd, 1),
  (27, .invokestatic 49, 3),
  (30, .iinc 3 1, 3),
  (33, .goto (-29), 3),
  (36, .return_, 1)]
def mi_P_moveStarts : mi_T := ("DataflowLab$Program", ({ cls := "DataflowLab$Program", name := "moveStarts", desc := "(II)V" } : MethodName), prog_10_method_17_code, 4, (Option.none : Option FieldType), [], tb_P_moveStarts)
theorem mo_P_moveStarts : mi_ok mi_P_moveStarts := by
  show ∀ q ∈ tb_P_moveStarts, decode prog_10_method_17_code q.1 = .ok q.2
  decide +kernel
theorem mw_P_moveStarts : mi_w mi_P_moveStarts 2 := ⟨tb_m 1114 (by decide +kernel) (by decide +kernel), tb_m 145 (by decide +kernel) rfl, ⟨by decide +kernel, by decide +kernel, by decide +kernel⟩, by decide +kernel⟩
theorem mv_P_moveStarts : mi_wV mi_P_moveStarts := ⟨tb_m 1113 (by decide +kernel) rfl, tb_m 39 (by decide +kernel) rfl⟩
def tb_P_insert : List (Nat × Instr × Nat) := [(0, .aload_n 0, 1),
  (1, .getfield 34, 3),
  (4, .istore 4, 2),
  (6, .iload 4, 2),
  (8, .iload_n 2, 1),
  (9, .if_icmp .le 29, 3),
  (12, .aload_n 0, 1),
  (13, .getfield 9, 3),
  (16, .iload 4, 2),
  (18, .aload_n 0, 1),
  (19, .getfield 9, 3),
  (22, .iload 4, 2),
  (24, .iconst 1, 1),
  (25, .isub, 1),
  (26, .invokestatic 41, 3),
  (29, .invokestatic 49, 3),
  (32, .iinc 4 (-1), 3),
  (35, .goto (-29), 3),
  (38, .aload_n 0, 1),
  (39, .getfield 9, 3),
  (42, .iload_n 2, 1),
  (43, .iload_n 3, 1),
  (44, .invokestatic 49, 3),
  (47, .aload_n 0, 1),
  (48, .dup, 1),
  (49, .getfield 34, 3),
  (52, .iconst 1, 1),
  (53, .iadd, 1),
  (54, .putfield 34, 3),
  (57, .aload_n 0, 1),
  (58, .iload_n 1, 1),
  (59, .iconst 1, 1),
  (60, .invokevirtual 53, 3),
  (63, .return_, 1)]
def mi_P_insert : mi_T := ("DataflowLab$Program", ({ cls := "DataflowLab$Program", name := "insert", desc := "(III)V" } : MethodName), prog_10_method_15_code, 5, (Option.none : Option FieldType), [], tb_P_insert)
theorem mo_P_insert : mi_ok mi_P_insert := by
  show ∀ q ∈ tb_P_insert, decode prog_10_method_15_code q.1 = .ok q.2
  decide +kernel
theorem mw_P_insert : mi_w mi_P_insert 3 := ⟨tb_m 1655 (by decide +kernel) (by decide +kernel), tb_m 145 (by decide +kernel) rfl, ⟨by decide +kernel, by decide +kernel, by decide +kernel⟩, by decide +kernel⟩
theorem mv_P_insert : mi_wV mi_P_insert := ⟨tb_m 1653 (by decide +kernel) rfl, tb_m 1654 (by decide +kernel) rfl⟩
def tb_D_insertWord : List (Nat × Instr × Nat) := [(0, .aload_n 0, 1),
  (1, .getfield 87, 3),
  (4, .iload_n 1, 1),
  (5, .invokevirtual 400, 3),
  (8, .iload_n 2, 1),
  (9, .iadd, 1),
  (10, .istore 4, 2),
  (12, .aload_n 0, 1),
  (13, .getfield 33, 3),
  (16, .aload_n 0, 1),
  (17, .getfield 87, 3),
  (20, .invokevirtual 368, 3),
  (23, .aload_n 0, 1),
  (24, .getfield 87, 3),
  (27, .iload_n 1, 1),
  (28, .iload 4, 2),
  (30, .iload_n 3, 1),
  (31, .invokevirtual 466, 3),
  (34, .aload_n 0, 1),
  (35, .invokevirtual 374, 3),
  (38, .iload 4, 2),
  (40, .ireturn, 1)]
def mi_D_insertWord : mi_T := ("DataflowLab", ({ cls := "DataflowLab", name := "insertWord", desc := "(III)I" } : MethodName), prog_1_method_71_code, 5, (Option.some FieldType.int), [], tb_D_insertWord)
theorem mo_D_insertWord : mi_ok mi_D_insertWord := by
  show ∀ q ∈ tb_D_insertWord, decode prog_1_method_71_code q.1 = .ok q.2
  decide +kernel
theorem mw_D_insertWord : mi_w mi_D_insertWord 3 := ⟨tb_m 1647 (by decide +kernel) (by decide +kernel), tb_m 144 (by decide +kernel) rfl, ⟨by decide +kernel, by decide +kernel, by decide +kernel⟩, by decide +kernel⟩
theorem mv_D_insertWord : mi_wV mi_D_insertWord := ⟨tb_m 1646 (by decide +kernel) rfl, tb_m 45 (by decide +kernel) rfl⟩
def tb_D_insertSet : List (Nat × Instr × Nat) := [(0, .aload_n 0, 1),
  (1, .iload_n 1, 1),
  (2, .invokevirtual 137, 3),
  (5, .aload_n 0, 1),
  (6, .iload_n 1, 1),
  (7, .iload_n 2, 1),
  (8, .invokevirtual 342, 3),
  (11, .iload_n 3, 1),
  (12, .invokestatic 199, 3),
  (15, .iload 4, 2),
  (17, .invokestatic 346, 3),
  (20, .aload_n 0, 1),
  (21, .invokevirtual 349, 3),
  (24, .aload_n 0, 1),
  (25, .iload_n 1, 1),
  (26, .iload_n 2, 1),
  (27, .iload_n 3, 1),
  (28, .iload 4, 2),
  (30, .invokestatic 352, 3),
  (33, .invokevirtual 357, 3),
  (36, .ireturn, 1)]
def mi_D_insertSet : mi_T := ("DataflowLab", ({ cls := "DataflowLab", name := "insertSet", desc := "(IIII)I" } : MethodName), prog_1_method_49_code, 5, (Option.some FieldType.int), [], tb_D_insertSet)
theorem mo_D_insertSet : mi_ok mi_D_insertSet := by
  show ∀ q ∈ tb_D_insertSet, decode prog_1_method_49_code q.1 = .ok q.2
  decide +kernel
theorem mw_D_insertSet : mi_w mi_D_insertSet 4 := ⟨tb_m 1628 (by decide +kernel) (by decide +kernel), tb_m 144 (by decide +kernel) rfl, ⟨by decide +kernel, by decide +kernel, by decide +kernel⟩, by decide +kernel⟩
theorem mv_D_insertSet : mi_wV mi_D_insertSet := ⟨tb_m 1626 (by decide +kernel) rfl, tb_m 1627 (by decide +kernel) rfl⟩
def tb_D_requireOperator : List (Nat × Instr × Nat) := [(0, .iload_n 0, 1),
  (1, .ifCond .eq 24, 3),
  (4, .iload_n 0, 1),
  (5, .iconst 1, 1),
  (6, .if_icmp .eq 19, 3),
  (9, .iload_n 0, 1),
  (10, .iconst 2, 1),
  (11, .if_icmp .eq 14, 3),
  (14, .new 105, 3),
  (17, .dup, 1),
  (18, .ldc_w 455, 3),
  (21, .invokespecial 109, 3),
  (24, .athrow, 1),
  (25, .return_, 1)]
def mi_D_requireOperator : mi_T := ("DataflowLab", ({ cls := "DataflowLab", name := "requireOperator", desc := "(I)V" } : MethodName), prog_1_method_67_code, 1, (Option.none : Option FieldType), [], tb_D_requireOperator)
theorem mo_D_requireOperator : mi_ok mi_D_requireOperator := by
  show ∀ q ∈ tb_D_requireOperator, decode prog_1_method_67_code q.1 = .ok q.2
  decide +kernel
theorem mw_D_requireOperator : mi_w mi_D_requireOperator 1 := ⟨tb_m 1665 (by decide +kernel) (by decide +kernel), tb_m 144 (by decide +kernel) rfl, ⟨by decide +kernel, by decide +kernel, by decide +kernel⟩, by decide +kernel⟩
theorem mv_D_requireOperator : Cond.static (mi_y mi_D_requireOperator) ∈ tb_G := tb_m 1664 (by decide +kernel) rfl
def tb_O_calc : List (Nat × Instr × Nat) := [(0, .iconst 2, 1),
  (1, .iload_n 0, 1),
  (2, .iload_n 1, 1),
  (3, .iload_n 2, 1),
  (4, .iload_n 3, 1),
  (5, .iconst 0, 1),
  (6, .invokestatic 9, 3),
  (9, .ireturn, 1)]
def mi_O_calc : mi_T := ("DataflowLab$Code", ({ cls := "DataflowLab$Code", name := "calc", desc := "(IIII)I" } : MethodName), prog_3_method_4_code, 4, (Option.some FieldType.int), [], tb_O_calc)
theorem mo_O_calc : mi_ok mi_O_calc := by
  show ∀ q ∈ tb_O_calc, decode prog_3_method_4_code q.1 = .ok q.2
  decide +kernel
theorem mw_O_calc : mi_w mi_O_calc 4 := ⟨tb_m 1669 (by decide +kernel) (by decide +kernel), tb_m 160 (by decide +kernel) rfl, ⟨by decide +kernel, by decide +kernel, by decide +kernel⟩, by decide +kernel⟩
theorem mv_O_calc : Cond.static (mi_y mi_O_calc) ∈ tb_G := tb_m 1668 (by decide +kernel) rfl
def tb_D_insertCalc : List (Nat × Instr × Nat) := [(0, .aload_n 0, 1),
  (1, .iload_n 1, 1),
  (2, .invokevirtual 137, 3),
  (5, .aload_n 0, 1),
  (6, .iload_n 1, 1),
  (7, .iload_n 2, 1),
  (8, .invokevirtual 342, 3),
  (11, .iload_n 3, 1),
  (12, .invokestatic 199, 3),
  (15, .iload 4, 2),
  (17, .invokestatic 199, 3),
  (20, .iload 5, 2),
  (22, .invokestatic 361, 3),
  (25, .iload 6, 2),
  (27, .invokestatic 199, 3),
  (30, .aload_n 0, 1),
  (31, .invokevirtual 349, 3),
  (34, .aload_n 0, 1),
  (35, .iload_n 1, 1),
  (36, .iload_n 2, 1),
  (37, .iload_n 3, 1),
  (38, .iload 4, 2),
  (40, .iload 5, 2),
  (42, .iload 6, 2),
  (44, .invokestatic 364, 3),
  (47, .invokevirtual 357, 3),
  (50, .ireturn, 1)]
def mi_D_insertCalc : mi_T := ("DataflowLab", ({ cls := "DataflowLab", name := "insertCalc", desc := "(IIIIII)I" } : MethodName), prog_1_method_50_code, 7, (Option.some FieldType.int), [], tb_D_insertCalc)
theorem mo_D_insertCalc : mi_ok mi_D_insertCalc := by
  show ∀ q ∈ tb_D_insertCalc, decode prog_1_method_50_code q.1 = .ok q.2
  decide +kernel
theorem mw_D_insertCalc : mi_w mi_D_insertCalc 6 := ⟨tb_m 1662 (by decide +kernel) (by decide +kernel), tb_m 144 (by decide +kernel) rfl, ⟨by decide +kernel, by decide +kernel, by decide +kernel⟩, by decide +kernel⟩
theorem mv_D_insertCalc : mi_wV mi_D_insertCalc := ⟨tb_m 1660 (by decide +kernel) rfl, tb_m 1661 (by decide +kernel) rfl⟩
def tb_P_remove : List (Nat × Instr × Nat) := [(0, .aload_n 0, 1),
  (1, .iload_n 1, 1),
  (2, .invokevirtual 57, 3),
  (5, .istore_n 2, 1),
  (6, .aload_n 0, 1),
  (7, .dup, 1),
  (8, .getfield 34, 3),
  (11, .iconst 1, 1),
  (12, .isub, 1),
  (13, .putfield 34, 3),
  (16, .iload_n 1, 1),
  (17, .istore_n 3, 1),
  (18, .iload_n 3, 1),
  (19, .aload_n 0, 1),
  (20, .getfield 34, 3),
  (23, .if_icmp .ge 27, 3),
  (26, .aload_n 0, 1),
  (27, .getfield 9, 3),
  (30, .iload_n 3, 1),
  (31, .aload_n 0, 1),
  (32, .getfield 9, 3),
  (35, .iload_n 3, 1),
  (36, .iconst 1, 1),
  (37, .iadd, 1),
  (38, .invokestatic 41, 3),
  (41, .invokestatic 49, 3),
  (44, .iinc 3 1, 3),
  (47, .goto (-29), 3),
  (50, .aload_n 0, 1),
  (51, .iload_n 2, 1),
  (52, .iconst (-1), 1),
  (53, .invokevirtual 53, 3),
  (56, .return_, 1)]
def mi_P_remove : mi_T := ("DataflowLab$Program", ({ cls := "DataflowLab$Program", name := "remove", desc := "(I)V" } : MethodName), prog_10_method_16_code, 4, (Option.none : Option FieldType), [], tb_P_remove)
theorem mo_P_remove : mi_ok mi_P_remove := by
  show ∀ q ∈ tb_P_remove, decode prog_10_method_16_code q.1 = .ok q.2
  decide +kernel
theorem mw_P_remove : mi_w mi_P_remove 1 := ⟨tb_m 1110 (by decide +kernel) (by decide +kernel), tb_m 145 (by decide +kernel) rfl, ⟨by decide +kernel, by decide +kernel, by decide +kernel⟩, by decide +kernel⟩
theorem mv_P_remove : mi_wV mi_P_remove := ⟨tb_m 1108 (by decide +kernel) rfl, tb_m 1109 (by decide +kernel) rfl⟩
def tb_D_removeInstruction : List (Nat × Instr × Nat) := [(0, .aload_n 0, 1),
  (1, .iload_n 1, 1),
  (2, .invokevirtual 144, 3),
  (5, .aload_n 0, 1),
  (6, .getfield 33, 3),
  (9, .aload_n 0, 1),
  (10, .getfield 87, 3),
  (13, .invokevirtual 368, 3),
  (16, .aload_n 0, 1),
  (17, .getfield 87, 3),
  (20, .iload_n 1, 1),
  (21, .invokevirtual 371, 3),
  (24, .aload_n 0, 1),
  (25, .invokevirtual 374, 3),
  (28, .aload_n 0, 1),
  (29, .getfield 87, 3),
  (32, .getfield 134, 3),
  (35, .ireturn, 1)]
def mi_D_removeInstruction : mi_T := ("DataflowLab", ({ cls := "DataflowLab", name := "removeInstruction", desc := "(I)I" } : MethodName), prog_1_method_51_code, 2, (Option.some FieldType.int), [], tb_D_removeInstruction)
theorem mo_D_removeInstruction : mi_ok mi_D_removeInstruction := by
  show ∀ q ∈ tb_D_removeInstruction, decode prog_1_method_51_code q.1 = .ok q.2
  decide +kernel
theorem mw_D_removeInstruction : mi_w mi_D_removeInstruction 1 := ⟨tb_m 1676 (by decide +kernel) (by decide +kernel), tb_m 144 (by decide +kernel) rfl, ⟨by decide +kernel, by decide +kernel, by decide +kernel⟩, by decide +kernel⟩
theorem mv_D_removeInstruction : mi_wV mi_D_removeInstruction := ⟨tb_m 1674 (by decide +kernel) rfl, tb_m 1675 (by decide +kernel) rfl⟩
def tb_G_countReached : List (Nat × Instr × Nat) := [(0, .aload_n 0, 1),
  (1, .getfield 49, 3),
  (4, .invokestatic 57, 3),
  (7, .ireturn, 1)]
def mi_G_countReached : mi_T := ("DataflowLab$Graph", ({ cls := "DataflowLab$Graph", name := "countReached", desc := "()I" } : MethodName), prog_5_method_4_code, 1, (Option.some FieldType.int), [], tb_G_countReached)
theorem mo_G_countReached : mi_ok mi_G_countReached := by
  show ∀ q ∈ tb_G_countReached, decode prog_5_method_4_code q.1 = .ok q.2
  decide +kernel
theorem mw_G_countReached : mi_w mi_G_countReached 0 := ⟨tb_m 1688 (by decide +kernel) (by decide +kernel), tb_m 149 (by decide +kernel) rfl, ⟨by decide +kernel, by decide +kernel, by decide +kernel⟩, by decide +kernel⟩
theorem mv_G_countReached : mi_wV mi_G_countReached := ⟨tb_m 1686 (by decide +kernel) rfl, tb_m 1687 (by decide +kernel) rfl⟩
def tb_D_setGoto : List (Nat × Instr × Nat) := [(0, .aload_n 0, 1),
  (1, .iload_n 1, 1),
  (2, .invokevirtual 137, 3),
  (5, .aload_n 0, 1),
  (6, .iload_n 2, 1),
  (7, .invokevirtual 137, 3),
  (10, .aload_n 0, 1),
  (11, .getfield 33, 3),
  (14, .aload_n 0, 1),
  (15, .getfield 87, 3),
  (18, .invokevirtual 368, 3),
  (21, .aload_n 0, 1),
  (22, .getfield 87, 3),
  (25, .iload_n 1, 1),
  (26, .iload_n 2, 1),
  (27, .invokevirtual 377, 3),
  (30, .aload_n 0, 1),
  (31, .invokevirtual 374, 3),
  (34, .aload_n 0, 1),
  (35, .invokevirtual 165, 3),
  (38, .invokevirtual 380, 3),
  (41, .ireturn, 1)]
def mi_D_setGoto : mi_T := ("DataflowLab", ({ cls := "DataflowLab", name := "setGoto", desc := "(II)I" } : MethodName), prog_1_method_52_code, 3, (Option.some FieldType.int), [], tb_D_setGoto)
theorem mo_D_setGoto : mi_ok mi_D_setGoto := by
  show ∀ q ∈ tb_D_setGoto, decode prog_1_method_52_code q.1 = .ok q.2
  decide +kernel
theorem mw_D_setGoto : mi_w mi_D_setGoto 2 := ⟨tb_m 1683 (by decide +kernel) (by decide +kernel), tb_m 144 (by decide +kernel) rfl, ⟨by decide +kernel, by decide +kernel, by decide +kernel⟩, by decide +kernel⟩
theorem mv_D_setGoto : mi_wV mi_D_setGoto := ⟨tb_m 1681 (by decide +kernel) rfl, tb_m 1682 (by decide +kernel) rfl⟩
def tb_D_setBranch : List (Nat × Instr × Nat) := [(0, .aload_n 0, 1),
  (1, .iload_n 1, 1),
  (2, .invokevirtual 137, 3),
  (5, .aload_n 0, 1),
  (6, .iload_n 3, 1),
  (7, .invokevirtual 137, 3),
  (10, .aload_n 0, 1),
  (11, .iload 4, 2),
  (13, .invokevirtual 137, 3),
  (16, .iload_n 2, 1),
  (17, .invokestatic 199, 3),
  (20, .aload_n 0, 1),
  (21, .getfield 33, 3),
  (24, .aload_n 0, 1),
  (25, .getfield 87, 3),
  (28, .invokevirtual 368, 3),
  (31, .aload_n 0, 1),
  (32, .getfield 87, 3),
  (35, .iload_n 1, 1),
  (36, .iload_n 2, 1),
  (37, .iload_n 3, 1),
  (38, .iload 4, 2),
  (40, .invokevirtual 383, 3),
  (43, .aload_n 0, 1),
  (44, .invokevirtual 374, 3),
  (47, .aload_n 0, 1),
  (48, .invokevirtual 165, 3),
  (51, .invokevirtual 380, 3),
  (54, .ireturn, 1)]
def mi_D_setBranch : mi_T := ("DataflowLab", ({ cls := "DataflowLab", name := "setBranch", desc := "(IIII)I" } : MethodName), prog_1_method_53_code, 5, (Option.some FieldType.int), [], tb_D_setBranch)
theorem mo_D_setBranch : mi_ok mi_D_setBranch := by
  show ∀ q ∈ tb_D_setBranch, decode prog_1_method_53_code q.1 = .ok q.2
  decide +kernel
theorem mw_D_setBranch : mi_w mi_D_setBranch 4 := ⟨tb_m 1695 (by decide +kernel) (by decide +kernel), tb_m 144 (by decide +kernel) rfl, ⟨by decide +kernel, by decide +kernel, by decide +kernel⟩, by decide +kernel⟩
theorem mv_D_setBranch : mi_wV mi_D_setBranch := ⟨tb_m 1693 (by decide +kernel) rfl, tb_m 1694 (by decide +kernel) rfl⟩
def tb_D_dropDead : List (Nat × Instr × Nat) := [(0, .iconst 0, 1),
  (1, .istore_n 2, 1),
  (2, .aload_n 0, 1),
  (3, .getfield 87, 3),
  (6, .getfield 134, 3),
  (9, .iconst 1, 1),
  (10, .isub, 1),
  (11, .istore_n 3, 1),
  (12, .iload_n 3, 1),
  (13, .ifCond .lt 31, 3),
  (16, .aload_n 1, 1),
  (17, .aload_n 0, 1),
  (18, .getfield 87, 3),
  (21, .iload_n 3, 1),
  (22, .invokevirtual 238, 3),
  (25, .ifCond .eq 13, 3),
  (28, .aload_n 0, 1),
  (29, .getfield 87, 3),
  (32, .iload_n 3, 1),
  (33, .invokevirtual 371, 3),
  (36, .iconst 1, 1),
  (37, .istore_n 2, 1),
  (38, .iinc 3 (-1), 3),
  (41, .goto (-29), 3),
  (44, .iload_n 2, 1),
  (45, .ireturn, 1)]
def mi_D_dropDead : mi_T := ("DataflowLab", ({ cls := "DataflowLab", name := "dropDead", desc := "(LDataflowLab$Liveness;)Z" } : MethodName), prog_1_method_72_code, 4, (Option.some FieldType.boolean), [], tb_D_dropDead)
theorem mo_D_dropDead : mi_ok mi_D_dropDead := by
  show ∀ q ∈ tb_D_dropDead, decode prog_1_method_72_code q.1 = .ok q.2
  decide +kernel
theorem mw_D_dropDead : mi_w mi_D_dropDead 1 := ⟨tb_m 1105 (by decide +kernel) (by decide +kernel), tb_m 144 (by decide +kernel) rfl, ⟨by decide +kernel, by decide +kernel, by decide +kernel⟩, by decide +kernel⟩
theorem mv_D_dropDead : mi_wV mi_D_dropDead := ⟨tb_m 1104 (by decide +kernel) rfl, tb_m 38 (by decide +kernel) rfl⟩
