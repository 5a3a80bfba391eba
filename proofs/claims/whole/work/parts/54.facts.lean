theorem ob_P_3 : Cond.methodLink "DataflowLab$Program" 3 Lib.objectInit ∈ tb_G ∧ Cond.instanceMethod Lib.objectInit ∈ tb_G ∧ Cond.code Lib.objectInit ⟨#[0xb1]⟩ 1 none ∈ tb_G := ⟨tb_m 184 (by decide +kernel) rfl, tb_m 177 (by decide +kernel) rfl, tb_m 178 (by decide +kernel) (by decide +kernel)⟩
theorem fd_P_9 : fd_F "DataflowLab$Program" 9 7 2 := ⟨by decide, by decide, by decide +kernel, Or.inl (tb_m 195 (by decide +kernel) rfl)⟩
theorem fd_P_15 : fd_F "DataflowLab$Program" 15 7 3 := ⟨by decide, by decide, by decide +kernel, Or.inl (tb_m 196 (by decide +kernel) rfl)⟩
theorem fd_P_18 : fd_F "DataflowLab$Program" 18 7 4 := ⟨by decide, by decide, by decide +kernel, Or.inl (tb_m 197 (by decide +kernel) rfl)⟩
theorem fd_P_21 : fd_F "DataflowLab$Program" 21 7 5 := ⟨by decide, by decide, by decide +kernel, Or.inl (tb_m 198 (by decide +kernel) rfl)⟩
theorem fd_P_24 : fd_F "DataflowLab$Program" 24 7 6 := ⟨by decide, by decide, by decide +kernel, Or.inl (tb_m 199 (by decide +kernel) rfl)⟩
theorem fd_P_27 : fd_F "DataflowLab$Program" 27 7 7 := ⟨by decide, by decide, by decide +kernel, Or.inl (tb_m 200 (by decide +kernel) rfl)⟩
theorem ob_S_3 : Cond.methodLink "DataflowLab$Parser" 3 Lib.objectInit ∈ tb_G ∧ Cond.instanceMethod Lib.objectInit ∈ tb_G ∧ Cond.code Lib.objectInit ⟨#[0xb1]⟩ 1 none ∈ tb_G := ⟨tb_m 224 (by decide +kernel) rfl, tb_m 177 (by decide +kernel) rfl, tb_m 178 (by decide +kernel) (by decide +kernel)⟩
theorem fd_S_9 : fd_F "DataflowLab$Parser" 9 6 0 := ⟨by decide, by decide, by decide +kernel, Or.inl (tb_m 225 (by decide +kernel) rfl)⟩
theorem fd_S_15 : fd_F "DataflowLab$Parser" 15 6 3 := ⟨by decide, by decide, by decide +kernel, Or.inl (tb_m 229 (by decide +kernel) rfl)⟩
theorem fd_S_19 : fd_F "DataflowLab$Parser" 19 6 8 := ⟨by decide, by decide, by decide +kernel, Or.inl (tb_m 235 (by decide +kernel) rfl)⟩
theorem fd_S_22 : fd_F "DataflowLab$Parser" 22 6 9 := ⟨by decide, by decide, by decide +kernel, Or.inl (tb_m 236 (by decide +kernel) rfl)⟩
theorem ob_W_3 : Cond.methodLink "DataflowLab$Writer" 3 Lib.objectInit ∈ tb_G ∧ Cond.instanceMethod Lib.objectInit ∈ tb_G ∧ Cond.code Lib.objectInit ⟨#[0xb1]⟩ 1 none ∈ tb_G := ⟨tb_m 263 (by decide +kernel) rfl, tb_m 177 (by decide +kernel) rfl, tb_m 178 (by decide +kernel) (by decide +kernel)⟩
theorem fd_W_9 : fd_F "DataflowLab$Writer" 9 9 0 := ⟨by decide, by decide, by decide +kernel, Or.inl (tb_m 264 (by decide +kernel) rfl)⟩
theorem ob_H_3 : Cond.methodLink "DataflowLab$History" 3 Lib.objectInit ∈ tb_G ∧ Cond.instanceMethod Lib.objectInit ∈ tb_G ∧ Cond.code Lib.objectInit ⟨#[0xb1]⟩ 1 none ∈ tb_G := ⟨tb_m 277 (by decide +kernel) rfl, tb_m 177 (by decide +kernel) rfl, tb_m 178 (by decide +kernel) (by decide +kernel)⟩
theorem fd_H_11 : fd_F "DataflowLab$History" 11 3 0 := ⟨by decide, by decide, by decide +kernel, Or.inl (tb_m 280 (by decide +kernel) rfl)⟩
theorem ob_G_3 : Cond.methodLink "DataflowLab$Graph" 3 Lib.objectInit ∈ tb_G ∧ Cond.instanceMethod Lib.objectInit ∈ tb_G ∧ Cond.code Lib.objectInit ⟨#[0xb1]⟩ 1 none ∈ tb_G := ⟨tb_m 296 (by decide +kernel) rfl, tb_m 177 (by decide +kernel) rfl, tb_m 178 (by decide +kernel) (by decide +kernel)⟩
theorem fd_G_9 : fd_F "DataflowLab$Graph" 9 2 2 := ⟨by decide, by decide, by decide +kernel, Or.inl (tb_m 300 (by decide +kernel) rfl)⟩
theorem fd_G_15 : fd_F "DataflowLab$Graph" 15 2 3 := ⟨by decide, by decide, by decide +kernel, Or.inl (tb_m 301 (by decide +kernel) rfl)⟩
theorem fd_G_18 : fd_F "DataflowLab$Graph" 18 2 4 := ⟨by decide, by decide, by decide +kernel, Or.inl (tb_m 302 (by decide +kernel) rfl)⟩
theorem fd_G_21 : fd_F "DataflowLab$Graph" 21 2 5 := ⟨by decide, by decide, by decide +kernel, Or.inl (tb_m 303 (by decide +kernel) rfl)⟩
theorem fd_G_24 : fd_F "DataflowLab$Graph" 24 2 6 := ⟨by decide, by decide, by decide +kernel, Or.inl (tb_m 304 (by decide +kernel) rfl)⟩
theorem ob_R_3 : Cond.methodLink "DataflowLab$Reaching" 3 Lib.objectInit ∈ tb_G ∧ Cond.instanceMethod Lib.objectInit ∈ tb_G ∧ Cond.code Lib.objectInit ⟨#[0xb1]⟩ 1 none ∈ tb_G := ⟨tb_m 325 (by decide +kernel) rfl, tb_m 177 (by decide +kernel) rfl, tb_m 178 (by decide +kernel) (by decide +kernel)⟩
theorem fd_R_9 : fd_F "DataflowLab$Reaching" 9 8 1 := ⟨by decide, by decide, by decide +kernel, Or.inl (tb_m 328 (by decide +kernel) rfl)⟩
theorem fd_R_15 : fd_F "DataflowLab$Reaching" 15 8 2 := ⟨by decide, by decide, by decide +kernel, Or.inl (tb_m 329 (by decide +kernel) rfl)⟩
theorem fd_R_19 : fd_F "DataflowLab$Reaching" 19 8 3 := ⟨by decide, by decide, by decide +kernel, Or.inl (tb_m 330 (by decide +kernel) rfl)⟩
theorem ob_L_3 : Cond.methodLink "DataflowLab$Liveness" 3 Lib.objectInit ∈ tb_G ∧ Cond.instanceMethod Lib.objectInit ∈ tb_G ∧ Cond.code Lib.objectInit ⟨#[0xb1]⟩ 1 none ∈ tb_G := ⟨tb_m 346 (by decide +kernel) rfl, tb_m 177 (by decide +kernel) rfl, tb_m 178 (by decide +kernel) (by decide +kernel)⟩
theorem fd_L_9 : fd_F "DataflowLab$Liveness" 9 4 1 := ⟨by decide, by decide, by decide +kernel, Or.inl (tb_m 349 (by decide +kernel) rfl)⟩
theorem fd_L_15 : fd_F "DataflowLab$Liveness" 15 4 2 := ⟨by decide, by decide, by decide +kernel, Or.inl (tb_m 350 (by decide +kernel) rfl)⟩
theorem ob_A_3 : Cond.methodLink "DataflowLab$Available" 3 Lib.objectInit ∈ tb_G ∧ Cond.instanceMethod Lib.objectInit ∈ tb_G ∧ Cond.code Lib.objectInit ⟨#[0xb1]⟩ 1 none ∈ tb_G := ⟨tb_m 363 (by decide +kernel) rfl, tb_m 177 (by decide +kernel) rfl, tb_m 178 (by decide +kernel) (by decide +kernel)⟩
theorem fd_A_9 : fd_F "DataflowLab$Available" 9 0 1 := ⟨by decide, by decide, by decide +kernel, Or.inl (tb_m 366 (by decide +kernel) rfl)⟩
theorem fd_A_15 : fd_F "DataflowLab$Available" 15 0 2 := ⟨by decide, by decide, by decide +kernel, Or.inl (tb_m 367 (by decide +kernel) rfl)⟩
theorem fd_A_19 : fd_F "DataflowLab$Available" 19 0 3 := ⟨by decide, by decide, by decide +kernel, Or.inl (tb_m 368 (by decide +kernel) rfl)⟩
theorem ob_C_3 : Cond.methodLink "DataflowLab$Constants" 3 Lib.objectInit ∈ tb_G ∧ Cond.instanceMethod Lib.objectInit ∈ tb_G ∧ Cond.code Lib.objectInit ⟨#[0xb1]⟩ 1 none ∈ tb_G := ⟨tb_m 383 (by decide +kernel) rfl, tb_m 177 (by decide +kernel) rfl, tb_m 178 (by decide +kernel) (by decide +kernel)⟩
theorem fd_C_9 : fd_F "DataflowLab$Constants" 9 1 1 := ⟨by decide, by decide, by decide +kernel, Or.inl (tb_m 386 (by decide +kernel) rfl)⟩
theorem fd_C_15 : fd_F "DataflowLab$Constants" 15 1 2 := ⟨by decide, by decide, by decide +kernel, Or.inl (tb_m 387 (by decide +kernel) rfl)⟩
theorem ob_N_3 : Cond.methodLink "DataflowLab$Machine" 3 Lib.objectInit ∈ tb_G ∧ Cond.instanceMethod Lib.objectInit ∈ tb_G ∧ Cond.code Lib.objectInit ⟨#[0xb1]⟩ 1 none ∈ tb_G := ⟨tb_m 400 (by decide +kernel) rfl, tb_m 177 (by decide +kernel) rfl, tb_m 178 (by decide +kernel) (by decide +kernel)⟩
theorem fd_N_9 : fd_F "DataflowLab$Machine" 9 5 0 := ⟨by decide, by decide, by decide +kernel, Or.inl (tb_m 401 (by decide +kernel) rfl)⟩
theorem fd_N_15 : fd_F "DataflowLab$Machine" 15 5 1 := ⟨by decide, by decide, by decide +kernel, Or.inl (tb_m 402 (by decide +kernel) rfl)⟩
theorem fd_S_25 : fd_F "DataflowLab$Parser" 25 6 1 := ⟨by decide, by decide, by decide +kernel, Or.inl (tb_m 226 (by decide +kernel) rfl)⟩
theorem lk_S_28 : lk_M "DataflowLab$Parser" 28 mi_D_put_a := Or.inr ⟨"DataflowLab", List.mem_of_getElem? (i := 10) (by decide +kernel)⟩
theorem lk_S_32 : lk_M "DataflowLab$Parser" 32 mi_S_clearBuffer := Or.inl (tb_m 434 (by decide +kernel) rfl)
theorem lm_S_35 : Cond.methodLink "DataflowLab$Parser" 35 (mi_y mi_JS_length) ∈ tb_G := tb_m 438 (by decide +kernel) rfl
theorem lm_S_40 : Cond.methodLink "DataflowLab$Parser" 40 (mi_y mi_JS_charAt) ∈ tb_G := tb_m 448 (by decide +kernel) rfl
theorem lk_S_44 : lk_M "DataflowLab$Parser" 44 mi_S_addByte := Or.inl (tb_m 486 (by decide +kernel) rfl)
theorem fd_P_30 : fd_F "DataflowLab$Program" 30 7 0 := ⟨by decide, by decide, by decide +kernel, Or.inl (tb_m 185 (by decide +kernel) rfl)⟩
theorem fd_P_34 : fd_F "DataflowLab$Program" 34 7 1 := ⟨by decide, by decide, by decide +kernel, Or.inl (tb_m 190 (by decide +kernel) rfl)⟩
theorem fd_S_56 : fd_F "DataflowLab$Parser" 56 6 6 := ⟨by decide, by decide, by decide +kernel, Or.inl (tb_m 233 (by decide +kernel) rfl)⟩
theorem fd_S_94 : fd_F "DataflowLab$Parser" 94 6 5 := ⟨by decide, by decide, by decide +kernel, Or.inl (tb_m 232 (by decide +kernel) rfl)⟩
theorem lk_S_150 : lk_M "DataflowLab$Parser" 150 mi_D_at_a := Or.inr ⟨"DataflowLab", List.mem_of_getElem? (i := 11) (by decide +kernel)⟩
theorem lk_S_171 : lk_M "DataflowLab$Parser" 171 mi_S_isBlank := Or.inl (tb_m 508 (by decide +kernel) rfl)
theorem fd_S_62 : fd_F "DataflowLab$Parser" 62 6 4 := ⟨by decide, by decide, by decide +kernel, Or.inl (tb_m 231 (by decide +kernel) rfl)⟩
theorem fd_S_168 : fd_F "DataflowLab$Parser" 168 6 7 := ⟨by decide, by decide, by decide +kernel, Or.inl (tb_m 234 (by decide +kernel) rfl)⟩
theorem lk_S_175 : lk_M "DataflowLab$Parser" 175 mi_S_tokenKind := Or.inl (tb_m 511 (by decide +kernel) rfl)
theorem lk_S_181 : lk_M "DataflowLab$Parser" 181 mi_JM_min := Or.inl (tb_m 517 (by decide +kernel) rfl)
theorem lk_S_178 : lk_M "DataflowLab$Parser" 178 mi_S_canGrow := Or.inl (tb_m 514 (by decide +kernel) rfl)
theorem fd_S_48 : fd_F "DataflowLab$Parser" 48 6 2 := ⟨by decide, by decide, by decide +kernel, Or.inl (tb_m 228 (by decide +kernel) rfl)⟩
theorem lk_P_49 : lk_M "DataflowLab$Program" 49 mi_D_put_a := Or.inr ⟨"DataflowLab", List.mem_of_getElem? (i := 12) (by decide +kernel)⟩
theorem lk_S_90 : lk_M "DataflowLab$Parser" 90 mi_S_isWord := Or.inl (tb_m 525 (by decide +kernel) rfl)
theorem fd_S_75 : fd_F "DataflowLab$Parser" 75 7 0 := ⟨by decide, by decide, by decide +kernel, Or.inr ⟨"DataflowLab", List.mem_of_getElem? (i := 2) (by decide +kernel)⟩⟩
theorem lk_S_101 : lk_M "DataflowLab$Parser" 101 mi_P_addBlock := Or.inl (tb_m 533 (by decide +kernel) rfl)
theorem lk_S_59 : lk_M "DataflowLab$Parser" 59 mi_S_readToken := Or.inl (tb_m 501 (by decide +kernel) rfl)
theorem lk_S_97 : lk_M "DataflowLab$Parser" 97 mi_S_fail := Or.inl (tb_m 529 (by decide +kernel) rfl)
theorem lk_S_104 : lk_M "DataflowLab$Parser" 104 mi_P_isFull := Or.inl (tb_m 550 (by decide +kernel) rfl)
theorem lk_S_69 : lk_M "DataflowLab$Parser" 69 mi_S_instructionKind := Or.inl (tb_m 538 (by decide +kernel) rfl)
theorem lk_S_118 : lk_M "DataflowLab$Parser" 118 mi_O_pack := Or.inl (tb_m 569 (by decide +kernel) rfl)
theorem lk_S_124 : lk_M "DataflowLab$Parser" 124 mi_P_append := Or.inl (tb_m 572 (by decide +kernel) rfl)
theorem lk_S_114 : lk_M "DataflowLab$Parser" 114 mi_S_takeNumber := Or.inl (tb_m 565 (by decide +kernel) rfl)
theorem lk_S_108 : lk_M "DataflowLab$Parser" 108 mi_S_takeVariable := Or.inl (tb_m 554 (by decide +kernel) rfl)
theorem lk_S_111 : lk_M "DataflowLab$Parser" 111 mi_S_takeOperator := Or.inl (tb_m 558 (by decide +kernel) rfl)
theorem lk_S_139 : lk_M "DataflowLab$Parser" 139 mi_P_exitByBranch := Or.inl (tb_m 591 (by decide +kernel) rfl)
theorem lk_S_134 : lk_M "DataflowLab$Parser" 134 mi_P_exitByGoto := Or.inl (tb_m 586 (by decide +kernel) rfl)
theorem lk_S_129 : lk_M "DataflowLab$Parser" 129 mi_P_exitByStop := Or.inl (tb_m 581 (by decide +kernel) rfl)
theorem lk_P_41 : lk_M "DataflowLab$Program" 41 mi_D_at_a := Or.inr ⟨"DataflowLab", List.mem_of_getElem? (i := 13) (by decide +kernel)⟩
theorem lk_S_143 : lk_M "DataflowLab$Parser" 143 mi_P_wayCount := Or.inl (tb_m 603 (by decide +kernel) rfl)
theorem lk_S_146 : lk_M "DataflowLab$Parser" 146 mi_P_wayOf := Or.inl (tb_m 608 (by decide +kernel) rfl)
theorem lk_S_51 : lk_M "DataflowLab$Parser" 51 mi_P_clear := Or.inl (tb_m 497 (by decide +kernel) rfl)
theorem lk_S_82 : lk_M "DataflowLab$Parser" 82 mi_S_takeSemicolon := Or.inl (tb_m 595 (by decide +kernel) rfl)
theorem lk_S_78 : lk_M "DataflowLab$Parser" 78 mi_S_parseExit := Or.inl (tb_m 576 (by decide +kernel) rfl)
theorem lk_S_72 : lk_M "DataflowLab$Parser" 72 mi_S_parseInstruction := Or.inl (tb_m 546 (by decide +kernel) rfl)
theorem lk_S_65 : lk_M "DataflowLab$Parser" 65 mi_S_parseHead := Or.inl (tb_m 520 (by decide +kernel) rfl)
theorem lk_S_85 : lk_M "DataflowLab$Parser" 85 mi_S_checkExits := Or.inl (tb_m 599 (by decide +kernel) rfl)
theorem nw_D_16 : nw_W "DataflowLab" 16 6 := ⟨by decide, tb_m 219 (by decide +kernel) rfl, tb_m 220 (by decide +kernel) rfl, tb_m 146 (by decide +kernel) rfl⟩
theorem lk_D_18 : lk_M "DataflowLab" 18 mi_S_init := Or.inr ⟨"DataflowLab", List.mem_of_getElem? (i := 1) (by decide +kernel)⟩
theorem nw_D_7 : nw_W "DataflowLab" 7 7 := ⟨by decide, tb_m 179 (by decide +kernel) rfl, tb_m 180 (by decide +kernel) rfl, tb_m 145 (by decide +kernel) rfl⟩
theorem lk_D_9 : lk_M "DataflowLab" 9 mi_P_init := Or.inr ⟨"DataflowLab", List.mem_of_getElem? (i := 0) (by decide +kernel)⟩
theorem lk_D_463 : lk_M "DataflowLab" 463 mi_S_fillBuffer := Or.inl (tb_m 430 (by decide +kernel) rfl)
theorem lk_D_113 : lk_M "DataflowLab" 113 mi_S_parse := Or.inl (tb_m 493 (by decide +kernel) rfl)
theorem ob_D_1 : Cond.methodLink "DataflowLab" 1 Lib.objectInit ∈ tb_G ∧ Cond.instanceMethod Lib.objectInit ∈ tb_G ∧ Cond.code Lib.objectInit ⟨#[0xb1]⟩ 1 none ∈ tb_G := ⟨tb_m 176 (by decide +kernel) rfl, tb_m 177 (by decide +kernel) rfl, tb_m 178 (by decide +kernel) (by decide +kernel)⟩
theorem fd_D_10 : fd_F "DataflowLab" 10 10 1 := ⟨by decide, by decide, by decide +kernel, Or.inl (tb_m 613 (by decide +kernel) rfl)⟩
theorem fd_D_19 : fd_F "DataflowLab" 19 10 2 := ⟨by decide, by decide, by decide +kernel, Or.inl (tb_m 614 (by decide +kernel) rfl)⟩
theorem nw_D_23 : nw_W "DataflowLab" 23 9 := ⟨by decide, tb_m 258 (by decide +kernel) rfl, tb_m 259 (by decide +kernel) rfl, tb_m 147 (by decide +kernel) rfl⟩
theorem lk_D_25 : lk_M "DataflowLab" 25 mi_W_init := Or.inr ⟨"DataflowLab", List.mem_of_getElem? (i := 2) (by decide +kernel)⟩
theorem fd_D_26 : fd_F "DataflowLab" 26 10 3 := ⟨by decide, by decide, by decide +kernel, Or.inl (tb_m 615 (by decide +kernel) rfl)⟩
theorem nw_D_30 : nw_W "DataflowLab" 30 3 := ⟨by decide, tb_m 272 (by decide +kernel) rfl, tb_m 273 (by decide +kernel) rfl, tb_m 148 (by decide +kernel) rfl⟩
theorem lk_D_32 : lk_M "DataflowLab" 32 mi_H_init := Or.inr ⟨"DataflowLab", List.mem_of_getElem? (i := 3) (by decide +kernel)⟩
theorem fd_D_33 : fd_F "DataflowLab" 33 10 4 := ⟨by decide, by decide, by decide +kernel, Or.inl (tb_m 616 (by decide +kernel) rfl)⟩
theorem fd_D_37 : fd_F "DataflowLab" 37 10 5 := ⟨by decide, by decide, by decide +kernel, Or.inl (tb_m 617 (by decide +kernel) rfl)⟩
theorem nw_D_41 : nw_W "DataflowLab" 41 2 := ⟨by decide, tb_m 291 (by decide +kernel) rfl, tb_m 292 (by decide +kernel) rfl, tb_m 149 (by decide +kernel) rfl⟩
theorem lk_D_43 : lk_M "DataflowLab" 43 mi_G_init := Or.inr ⟨"DataflowLab", List.mem_of_getElem? (i := 4) (by decide +kernel)⟩
theorem fd_D_44 : fd_F "DataflowLab" 44 10 6 := ⟨by decide, by decide, by decide +kernel, Or.inl (tb_m 618 (by decide +kernel) rfl)⟩
theorem nw_D_48 : nw_W "DataflowLab" 48 8 := ⟨by decide, tb_m 320 (by decide +kernel) rfl, tb_m 321 (by decide +kernel) rfl, tb_m 150 (by decide +kernel) rfl⟩
theorem lk_D_50 : lk_M "DataflowLab" 50 mi_R_init := Or.inr ⟨"DataflowLab", List.mem_of_getElem? (i := 5) (by decide +kernel)⟩
theorem fd_D_51 : fd_F "DataflowLab" 51 10 7 := ⟨by decide, by decide, by decide +kernel, Or.inl (tb_m 619 (by decide +kernel) rfl)⟩
theorem nw_D_55 : nw_W "DataflowLab" 55 4 := ⟨by decide, tb_m 341 (by decide +kernel) rfl, tb_m 342 (by decide +kernel) rfl, tb_m 151 (by decide +kernel) rfl⟩
theorem lk_D_57 : lk_M "DataflowLab" 57 mi_L_init := Or.inr ⟨"DataflowLab", List.mem_of_getElem? (i := 6) (by decide +kernel)⟩
theorem fd_D_58 : fd_F "DataflowLab" 58 10 8 := ⟨by decide, by decide, by decide +kernel, Or.inl (tb_m 620 (by decide +kernel) rfl)⟩
theorem nw_D_62 : nw_W "DataflowLab" 62 0 := ⟨by decide, tb_m 358 (by decide +kernel) rfl, tb_m 359 (by decide +kernel) rfl, tb_m 152 (by decide +kernel) rfl⟩
theorem lk_D_64 : lk_M "DataflowLab" 64 mi_A_init := Or.inr ⟨"DataflowLab", List.mem_of_getElem? (i := 7) (by decide +kernel)⟩
theorem fd_D_65 : fd_F "DataflowLab" 65 10 9 := ⟨by decide, by decide, by decide +kernel, Or.inl (tb_m 621 (by decide +kernel) rfl)⟩
theorem nw_D_69 : nw_W "DataflowLab" 69 1 := ⟨by decide, tb_m 378 (by decide +kernel) rfl, tb_m 379 (by decide +kernel) rfl, tb_m 153 (by decide +kernel) rfl⟩
theorem lk_D_71 : lk_M "DataflowLab" 71 mi_C_init := Or.inr ⟨"DataflowLab", List.mem_of_getElem? (i := 8) (by decide +kernel)⟩
theorem fd_D_72 : fd_F "DataflowLab" 72 10 10 := ⟨by decide, by decide, by decide +kernel, Or.inl (tb_m 622 (by decide +kernel) rfl)⟩
theorem nw_D_76 : nw_W "DataflowLab" 76 5 := ⟨by decide, tb_m 395 (by decide +kernel) rfl, tb_m 396 (by decide +kernel) rfl, tb_m 154 (by decide +kernel) rfl⟩
theorem lk_D_78 : lk_M "DataflowLab" 78 mi_N_init := Or.inr ⟨"DataflowLab", List.mem_of_getElem? (i := 9) (by decide +kernel)⟩
theorem fd_D_79 : fd_F "DataflowLab" 79 10 11 := ⟨by decide, by decide, by decide +kernel, Or.inl (tb_m 623 (by decide +kernel) rfl)⟩
theorem lk_D_83 : lk_M "DataflowLab" 83 mi_D_firstProgram := Or.inl (tb_m 426 (by decide +kernel) rfl)
theorem fd_D_87 : fd_F "DataflowLab" 87 10 0 := ⟨by decide, by decide, by decide +kernel, Or.inl (tb_m 612 (by decide +kernel) rfl)⟩
theorem lk_D_90 : lk_M "DataflowLab" 90 mi_S_textLength := Or.inl (tb_m 1150 (by decide +kernel) rfl)
theorem lk_D_101 : lk_M "DataflowLab" 101 mi_S_addByte := Or.inl (tb_m 1222 (by decide +kernel) rfl)
set_option maxRecDepth 100000 in
theorem tc_D_98 : (∀ w ∈ (vx_atS "DataflowLab" 98 "java/lang/IllegalStateException" ["java/lang/RuntimeException", "java/lang/Exception"]).filter goodWord, w ∈ tb_G) ∧ (∀ w ∈ (vx_atS "DataflowLab" 98 "java/lang/IllegalStateException" ["java/lang/RuntimeException", "java/lang/Exception"]).filter (fun w => !goodWord w), w ∈ Cond.castable "java/lang/IllegalStateException" "java/lang/IllegalStateException" :: gn_D.map Cond.declares) ∧ ∀ w ∈ vx_atS "DataflowLab" 98 "java/lang/IllegalStateException" ["java/lang/RuntimeException", "java/lang/Exception"], vx_ot w = true := by decide +kernel
theorem th_D_94_96_98 : th_W "DataflowLab" "java/lang/IllegalStateException" 94 96 98 "the text buffer is full" 12 ["java/lang/RuntimeException", "java/lang/Exception"] := ⟨⟨by decide +kernel, by decide +kernel⟩, ⟨tb_m 1154 (by decide +kernel) rfl, tb_m 165 (by decide +kernel) rfl⟩, List.mem_of_getElem? (i := 12) (by decide +kernel), List.mem_of_getElem? (i := 0) (by decide +kernel), ⟨tc_D_98.1, tc_D_98.2.1⟩, fun w hw => by
  rcases List.mem_cons.mp hw with e | e
  · rw [e]; rfl
  · rcases List.mem_cons.mp e with e | e
    · rw [e]; rfl
    · exact tc_D_98.2.2 w e⟩
set_option maxRecDepth 100000 in
theorem tc_D_109 : (∀ w ∈ (vx_atS "DataflowLab" 109 "java/lang/IllegalArgumentException" ["java/lang/RuntimeException", "java/lang/Exception"]).filter goodWord, w ∈ tb_G) ∧ (∀ w ∈ (vx_atS "DataflowLab" 109 "java/lang/IllegalArgumentException" ["java/lang/RuntimeException", "java/lang/Exception"]).filter (fun w => !goodWord w), w ∈ Cond.castable "java/lang/IllegalArgumentException" "java/lang/IllegalArgumentException" :: gn_D.map Cond.declares) ∧ ∀ w ∈ vx_atS "DataflowLab" 109 "java/lang/IllegalArgumentException" ["java/lang/RuntimeException", "java/lang/Exception"], vx_ot w = true := by decide +kernel
theorem th_D_105_107_109 : th_W "DataflowLab" "java/lang/IllegalArgumentException" 105 107 109 "no such length" 13 ["java/lang/RuntimeException", "java/lang/Exception"] := ⟨⟨by decide +kernel, by decide +kernel⟩, ⟨tb_m 1231 (by decide +kernel) rfl, tb_m 166 (by decide +kernel) rfl⟩, List.mem_of_getElem? (i := 13) (by decide +kernel), List.mem_of_getElem? (i := 1) (by decide +kernel), ⟨tc_D_109.1, tc_D_109.2.1⟩, fun w hw => by
  rcases List.mem_cons.mp hw with e | e
  · rw [e]; rfl
  · rcases List.mem_cons.mp e with e | e
    · rw [e]; rfl
    · exact tc_D_109.2.2 w e⟩
theorem lk_D_110 : lk_M "DataflowLab" 110 mi_S_cutBuffer := Or.inl (tb_m 1247 (by decide +kernel) rfl)
theorem lk_P_37 : lk_M "DataflowLab$Program" 37 mi_D_copy := Or.inr ⟨"DataflowLab", List.mem_of_getElem? (i := 14) (by decide +kernel)⟩
theorem fd_H_17 : fd_F "DataflowLab$History" 17 3 2 := ⟨by decide, by decide, by decide +kernel, Or.inl (tb_m 282 (by decide +kernel) rfl)⟩
theorem fd_D_471 : fd_F "DataflowLab" 471 2 0 := ⟨by decide, by decide, by decide +kernel, Or.inr ⟨"DataflowLab", List.mem_of_getElem? (i := 12) (by decide +kernel)⟩⟩
theorem fd_D_474 : fd_F "DataflowLab" 474 8 0 := ⟨by decide, by decide, by decide +kernel, Or.inr ⟨"DataflowLab", List.mem_of_getElem? (i := 13) (by decide +kernel)⟩⟩
theorem fd_D_475 : fd_F "DataflowLab" 475 4 0 := ⟨by decide, by decide, by decide +kernel, Or.inr ⟨"DataflowLab", List.mem_of_getElem? (i := 14) (by decide +kernel)⟩⟩
theorem fd_D_476 : fd_F "DataflowLab" 476 0 0 := ⟨by decide, by decide, by decide +kernel, Or.inr ⟨"DataflowLab", List.mem_of_getElem? (i := 15) (by decide +kernel)⟩⟩
theorem fd_D_477 : fd_F "DataflowLab" 477 1 0 := ⟨by decide, by decide, by decide +kernel, Or.inr ⟨"DataflowLab", List.mem_of_getElem? (i := 16) (by decide +kernel)⟩⟩
theorem lk_D_431 : lk_M "DataflowLab" 431 mi_P_copyFrom := Or.inl (tb_m 659 (by decide +kernel) rfl)
theorem lk_D_470 : lk_M "DataflowLab" 470 mi_H_clear := Or.inl (tb_m 666 (by decide +kernel) rfl)
theorem lk_D_374 : lk_M "DataflowLab" 374 mi_D_forgetAnalyses := Or.inl (tb_m 670 (by decide +kernel) rfl)
theorem lk_D_117 : lk_M "DataflowLab" 117 mi_S_clearBuffer := Or.inl (tb_m 654 (by decide +kernel) rfl)
theorem lk_D_120 : lk_M "DataflowLab" 120 mi_D_replaceProgram := Or.inl (tb_m 655 (by decide +kernel) rfl)
theorem fd_D_124 : fd_F "DataflowLab" 124 7 0 := ⟨by decide, by decide, by decide +kernel, Or.inr ⟨"DataflowLab", List.mem_of_getElem? (i := 0) (by decide +kernel)⟩⟩
theorem fd_D_128 : fd_F "DataflowLab" 128 6 2 := ⟨by decide, by decide, by decide +kernel, Or.inr ⟨"DataflowLab", List.mem_of_getElem? (i := 8) (by decide +kernel)⟩⟩
theorem fd_D_131 : fd_F "DataflowLab" 131 6 3 := ⟨by decide, by decide, by decide +kernel, Or.inr ⟨"DataflowLab", List.mem_of_getElem? (i := 9) (by decide +kernel)⟩⟩
theorem fd_D_134 : fd_F "DataflowLab" 134 7 1 := ⟨by decide, by decide, by decide +kernel, Or.inr ⟨"DataflowLab", List.mem_of_getElem? (i := 6) (by decide +kernel)⟩⟩
set_option maxRecDepth 100000 in
theorem tc_D_440 : (∀ w ∈ (vx_atS "DataflowLab" 440 "java/lang/IndexOutOfBoundsException" ["java/lang/RuntimeException", "java/lang/Exception"]).filter goodWord, w ∈ tb_G) ∧ (∀ w ∈ (vx_atS "DataflowLab" 440 "java/lang/IndexOutOfBoundsException" ["java/lang/RuntimeException", "java/lang/Exception"]).filter (fun w => !goodWord w), w ∈ Cond.castable "java/lang/IndexOutOfBoundsException" "java/lang/IndexOutOfBoundsException" :: gn_D.map Cond.declares) ∧ ∀ w ∈ vx_atS "DataflowLab" 440 "java/lang/IndexOutOfBoundsException" ["java/lang/RuntimeException", "java/lang/Exception"], vx_ot w = true := by decide +kernel
theorem th_D_436_438_440 : th_W "DataflowLab" "java/lang/IndexOutOfBoundsException" 436 438 440 "no such block" 14 ["java/lang/RuntimeException", "java/lang/Exception"] := ⟨⟨by decide +kernel, by decide +kernel⟩, ⟨tb_m 1263 (by decide +kernel) rfl, tb_m 167 (by decide +kernel) rfl⟩, List.mem_of_getElem? (i := 14) (by decide +kernel), List.mem_of_getElem? (i := 2) (by decide +kernel), ⟨tc_D_440.1, tc_D_440.2.1⟩, fun w hw => by
  rcases List.mem_cons.mp hw with e | e
  · rw [e]; rfl
  · rcases List.mem_cons.mp e with e | e
    · rw [e]; rfl
    · exact tc_D_440.2.2 w e⟩
theorem lk_D_137 : lk_M "DataflowLab" 137 mi_D_requireBlock := Or.inl (tb_m 1259 (by decide +kernel) rfl)
theorem lk_D_140 : lk_M "DataflowLab" 140 mi_P_sizeOf := Or.inl (tb_m 1279 (by decide +kernel) rfl)
theorem lm_D_137 : Cond.methodLink "DataflowLab" 137 (mi_y mi_D_requireBlock) ∈ tb_G := tb_m 1259 (by decide +kernel) rfl
theorem th_D_436_441_440 : th_W "DataflowLab" "java/lang/IndexOutOfBoundsException" 436 441 440 "no such instruction" 15 ["java/lang/RuntimeException", "java/lang/Exception"] := ⟨⟨by decide +kernel, by decide +kernel⟩, ⟨tb_m 1263 (by decide +kernel) rfl, tb_m 167 (by decide +kernel) rfl⟩, List.mem_of_getElem? (i := 15) (by decide +kernel), List.mem_of_getElem? (i := 2) (by decide +kernel), ⟨tc_D_440.1, tc_D_440.2.1⟩, fun w hw => by
  rcases List.mem_cons.mp hw with e | e
  · rw [e]; rfl
  · rcases List.mem_cons.mp e with e | e
    · rw [e]; rfl
    · exact tc_D_440.2.2 w e⟩
theorem lk_D_144 : lk_M "DataflowLab" 144 mi_D_requireInstruction := Or.inl (tb_m 1290 (by decide +kernel) rfl)
theorem lk_D_147 : lk_M "DataflowLab" 147 mi_P_blockAt := Or.inl (tb_m 1295 (by decide +kernel) rfl)
theorem lm_D_144 : Cond.methodLink "DataflowLab" 144 (mi_y mi_D_requireInstruction) ∈ tb_G := tb_m 1290 (by decide +kernel) rfl
theorem lk_P_60 : lk_M "DataflowLab$Program" 60 mi_O_kind := Or.inl (tb_m 741 (by decide +kernel) rfl)
theorem lk_D_150 : lk_M "DataflowLab" 150 mi_P_kindAt := Or.inl (tb_m 1119 (by decide +kernel) rfl)
set_option maxRecDepth 100000 in
theorem lk_D_153 : lk_M "DataflowLab" 153 mi_P_wayCount := Or.inl (tb_m 1311 (by decide +kernel) rfl)
theorem lk_D_161 : lk_M "DataflowLab" 161 mi_P_wayOf := Or.inl (tb_m 1328 (by decide +kernel) rfl)
theorem lk_G_69 : lk_M "DataflowLab$Graph" 69 mi_D_fill_a := Or.inr ⟨"DataflowLab", List.mem_of_getElem? (i := 19) (by decide +kernel)⟩
theorem fd_G_73 : fd_F "DataflowLab$Graph" 73 7 0 := ⟨by decide, by decide, by decide +kernel, Or.inr ⟨"DataflowLab", List.mem_of_getElem? (i := 3) (by decide +kernel)⟩⟩
theorem lk_G_78 : lk_M "DataflowLab$Graph" 78 mi_P_wayCount := Or.inl (tb_m 810 (by decide +kernel) rfl)
theorem lk_G_81 : lk_M "DataflowLab$Graph" 81 mi_P_wayOf := Or.inl (tb_m 811 (by decide +kernel) rfl)
theorem lk_G_62 : lk_M "DataflowLab$Graph" 62 mi_D_at_a := Or.inr ⟨"DataflowLab", List.mem_of_getElem? (i := 20) (by decide +kernel)⟩
theorem lk_G_41 : lk_M "DataflowLab$Graph" 41 mi_D_put_a := Or.inr ⟨"DataflowLab", List.mem_of_getElem? (i := 21) (by decide +kernel)⟩
theorem lk_G_53 : lk_M "DataflowLab$Graph" 53 mi_D_hasBit := Or.inr ⟨"DataflowLab", List.mem_of_getElem? (i := 22) (by decide +kernel)⟩
theorem fd_G_49 : fd_F "DataflowLab$Graph" 49 2 1 := ⟨by decide, by decide, by decide +kernel, Or.inl (tb_m 299 (by decide +kernel) rfl)⟩
theorem lk_G_85 : lk_M "DataflowLab$Graph" 85 mi_G_union := Or.inl (tb_m 818 (by decide +kernel) rfl)
theorem lk_G_88 : lk_M "DataflowLab$Graph" 88 mi_G_isReached := Or.inl (tb_m 826 (by decide +kernel) rfl)
theorem lk_G_93 : lk_M "DataflowLab$Graph" 93 mi_G_narrowDominators := Or.inl (tb_m 831 (by decide +kernel) rfl)
theorem lk_G_66 : lk_M "DataflowLab$Graph" 66 mi_G_origins := Or.inl (tb_m 839 (by decide +kernel) rfl)
theorem lk_G_27 : lk_M "DataflowLab$Graph" 27 mi_G_readEdges := Or.inl (tb_m 805 (by decide +kernel) rfl)
theorem lk_G_31 : lk_M "DataflowLab$Graph" 31 mi_G_measureDistances := Or.inl (tb_m 814 (by decide +kernel) rfl)
theorem lk_G_34 : lk_M "DataflowLab$Graph" 34 mi_G_findDominators := Or.inl (tb_m 822 (by decide +kernel) rfl)
theorem lk_G_37 : lk_M "DataflowLab$Graph" 37 mi_G_findBody := Or.inl (tb_m 835 (by decide +kernel) rfl)
theorem fd_G_45 : fd_F "DataflowLab$Graph" 45 2 0 := ⟨by decide, by decide, by decide +kernel, Or.inl (tb_m 297 (by decide +kernel) rfl)⟩
theorem lk_D_478 : lk_M "DataflowLab" 478 mi_G_analyse := Or.inl (tb_m 801 (by decide +kernel) rfl)
theorem lk_D_165 : lk_M "DataflowLab" 165 mi_D_graph := Or.inl (tb_m 797 (by decide +kernel) rfl)
theorem lk_D_169 : lk_M "DataflowLab" 169 mi_G_predecessorSet := Or.inl (tb_m 1336 (by decide +kernel) rfl)
theorem lk_D_172 : lk_M "DataflowLab" 172 mi_JI_bitCount := Or.inl (tb_m 1340 (by decide +kernel) rfl)
theorem lk_D_177 : lk_M "DataflowLab" 177 mi_G_isReached := Or.inl (tb_m 1348 (by decide +kernel) rfl)
theorem lk_D_181 : lk_M "DataflowLab" 181 mi_G_distance := Or.inl (tb_m 1356 (by decide +kernel) rfl)
theorem lk_P_72 : lk_M "DataflowLab$Program" 72 mi_P_kindAt := Or.inl (tb_m 737 (by decide +kernel) rfl)
theorem lk_P_75 : lk_M "DataflowLab$Program" 75 mi_O_target := Or.inl (tb_m 744 (by decide +kernel) rfl)
theorem lk_R_22 : lk_M "DataflowLab$Reaching" 22 mi_D_fill_b := Or.inr ⟨"DataflowLab", List.mem_of_getElem? (i := 33) (by decide +kernel)⟩
theorem fd_R_83 : fd_F "DataflowLab$Reaching" 83 7 1 := ⟨by decide, by decide, by decide +kernel, Or.inr ⟨"DataflowLab", List.mem_of_getElem? (i := 7) (by decide +kernel)⟩⟩
theorem lk_R_63 : lk_M "DataflowLab$Reaching" 63 mi_P_definedAt := Or.inl (tb_m 1009 (by decide +kernel) rfl)
theorem lk_R_56 : lk_M "DataflowLab$Reaching" 56 mi_D_at_b := Or.inr ⟨"DataflowLab", List.mem_of_getElem? (i := 35) (by decide +kernel)⟩
theorem lk_R_87 : lk_M "DataflowLab$Reaching" 87 mi_D_put_b := Or.inr ⟨"DataflowLab", List.mem_of_getElem? (i := 36) (by decide +kernel)⟩
theorem lk_P_57 : lk_M "DataflowLab$Program" 57 mi_P_blockAt := Or.inl (tb_m 727 (by decide +kernel) rfl)
theorem lk_P_65 : lk_M "DataflowLab$Program" 65 mi_P_wayOf := Or.inl (tb_m 722 (by decide +kernel) rfl)
theorem lk_P_69 : lk_M "DataflowLab$Program" 69 mi_P_firstPoint := Or.inl (tb_m 723 (by decide +kernel) rfl)
theorem lk_R_60 : lk_M "DataflowLab$Reaching" 60 mi_D_at_a := Or.inr ⟨"DataflowLab", List.mem_of_getElem? (i := 38) (by decide +kernel)⟩
theorem lk_R_39 : lk_M "DataflowLab$Reaching" 39 mi_D_put_a := Or.inr ⟨"DataflowLab", List.mem_of_getElem? (i := 37) (by decide +kernel)⟩
theorem lk_R_92 : lk_M "DataflowLab$Reaching" 92 mi_P_nextCount := Or.inl (tb_m 1022 (by decide +kernel) rfl)
theorem lk_R_95 : lk_M "DataflowLab$Reaching" 95 mi_P_nextPoint := Or.inl (tb_m 1023 (by decide +kernel) rfl)
theorem lk_R_99 : lk_M "DataflowLab$Reaching" 99 mi_R_join := Or.inl (tb_m 1024 (by decide +kernel) rfl)
theorem lk_R_26 : lk_M "DataflowLab$Reaching" 26 mi_D_fill_a := Or.inr ⟨"DataflowLab", List.mem_of_getElem? (i := 34) (by decide +kernel)⟩
theorem lk_R_29 : lk_M "DataflowLab$Reaching" 29 mi_R_collectDefinitions := Or.inl (tb_m 1005 (by decide +kernel) rfl)
theorem lk_R_33 : lk_M "DataflowLab$Reaching" 33 mi_P_firstPoint := Or.inl (tb_m 1012 (by decide +kernel) rfl)
theorem lk_R_44 : lk_M "DataflowLab$Reaching" 44 mi_P_hasPoint := Or.inl (tb_m 1015 (by decide +kernel) rfl)
theorem lk_R_48 : lk_M "DataflowLab$Reaching" 48 mi_R_flow := Or.inl (tb_m 1016 (by decide +kernel) rfl)
theorem fd_R_52 : fd_F "DataflowLab$Reaching" 52 8 0 := ⟨by decide, by decide, by decide +kernel, Or.inl (tb_m 326 (by decide +kernel) rfl)⟩
theorem lk_D_481 : lk_M "DataflowLab" 481 mi_R_analyse := Or.inl (tb_m 999 (by decide +kernel) rfl)
theorem lk_D_184 : lk_M "DataflowLab" 184 mi_D_reaching := Or.inl (tb_m 995 (by decide +kernel) rfl)
theorem lk_D_188 : lk_M "DataflowLab" 188 mi_P_firstPoint := Or.inl (tb_m 1367 (by decide +kernel) rfl)
theorem lk_D_191 : lk_M "DataflowLab" 191 mi_R_definitionsAt_a := Or.inl (tb_m 1368 (by decide +kernel) rfl)
theorem lk_D_195 : lk_M "DataflowLab" 195 mi_D_hasBit := Or.inl (tb_m 1372 (by decide +kernel) rfl)
theorem th_D_105_451_109 : th_W "DataflowLab" "java/lang/IllegalArgumentException" 105 451 109 "no such variable" 17 ["java/lang/RuntimeException", "java/lang/Exception"] := ⟨⟨by decide +kernel, by decide +kernel⟩, ⟨tb_m 1231 (by decide +kernel) rfl, tb_m 166 (by decide +kernel) rfl⟩, List.mem_of_getElem? (i := 17) (by decide +kernel), List.mem_of_getElem? (i := 1) (by decide +kernel), ⟨tc_D_109.1, tc_D_109.2.1⟩, fun w hw => by
  rcases List.mem_cons.mp hw with e | e
  · rw [e]; rfl
  · rcases List.mem_cons.mp e with e | e
    · rw [e]; rfl
    · exact tc_D_109.2.2 w e⟩
theorem lk_D_199 : lk_M "DataflowLab" 199 mi_D_requireVariable := Or.inl (tb_m 1380 (by decide +kernel) rfl)
theorem lk_D_202 : lk_M "DataflowLab" 202 mi_R_definitionsAt_b := Or.inl (tb_m 1384 (by decide +kernel) rfl)
theorem lk_D_205 : lk_M "DataflowLab" 205 mi_JL_bitCount := Or.inl (tb_m 1388 (by decide +kernel) rfl)
theorem lm_D_199 : Cond.methodLink "DataflowLab" 199 (mi_y mi_D_requireVariable) ∈ tb_G := tb_m 1380 (by decide +kernel) rfl
theorem lk_D_210 : lk_M "DataflowLab" 210 mi_R_initialsAt := Or.inl (tb_m 1401 (by decide +kernel) rfl)
theorem lk_P_81 : lk_M "DataflowLab$Program" 81 mi_O_right := Or.inl (tb_m 758 (by decide +kernel) rfl)
theorem lk_P_78 : lk_M "DataflowLab$Program" 78 mi_O_left := Or.inl (tb_m 755 (by decide +kernel) rfl)
theorem lk_P_84 : lk_M "DataflowLab$Program" 84 mi_P_operandAt := Or.inl (tb_m 751 (by decide +kernel) rfl)
theorem lk_R_66 : lk_M "DataflowLab$Reaching" 66 mi_D_hasBit := Or.inr ⟨"DataflowLab", List.mem_of_getElem? (i := 44) (by decide +kernel)⟩
theorem lk_R_70 : lk_M "DataflowLab$Reaching" 70 mi_P_usedAt := Or.inl (tb_m 1414 (by decide +kernel) rfl)
theorem lk_D_213 : lk_M "DataflowLab" 213 mi_R_countUses := Or.inl (tb_m 1409 (by decide +kernel) rfl)
theorem lk_R_73 : lk_M "DataflowLab$Reaching" 73 mi_R_definitionsAt_b := Or.inl (tb_m 1428 (by decide +kernel) rfl)
theorem lk_R_77 : lk_M "DataflowLab$Reaching" 77 mi_JL_bitCount := Or.inl (tb_m 1429 (by decide +kernel) rfl)
theorem lk_D_217 : lk_M "DataflowLab" 217 mi_P_operandAt := Or.inl (tb_m 1422 (by decide +kernel) rfl)
theorem lk_D_222 : lk_M "DataflowLab" 222 mi_R_onlyDefinitionAt := Or.inl (tb_m 1424 (by decide +kernel) rfl)
theorem lk_L_73 : lk_M "DataflowLab$Liveness" 73 mi_P_nextCount := Or.inl (tb_m 714 (by decide +kernel) rfl)
theorem lk_L_76 : lk_M "DataflowLab$Liveness" 76 mi_P_nextPoint := Or.inl (tb_m 718 (by decide +kernel) rfl)
theorem lk_L_37 : lk_M "DataflowLab$Liveness" 37 mi_D_at_a := Or.inr ⟨"DataflowLab", List.mem_of_getElem? (i := 16) (by decide +kernel)⟩
theorem lk_L_79 : lk_M "DataflowLab$Liveness" 79 mi_D_put_a := Or.inr ⟨"DataflowLab", List.mem_of_getElem? (i := 17) (by decide +kernel)⟩
theorem lk_L_41 : lk_M "DataflowLab$Liveness" 41 mi_P_definedAt := Or.inl (tb_m 733 (by decide +kernel) rfl)
theorem lk_L_83 : lk_M "DataflowLab$Liveness" 83 mi_P_usedAt := Or.inl (tb_m 747 (by decide +kernel) rfl)
theorem lk_L_18 : lk_M "DataflowLab$Liveness" 18 mi_D_fill_a := Or.inr ⟨"DataflowLab", List.mem_of_getElem? (i := 15) (by decide +kernel)⟩
theorem lk_L_23 : lk_M "DataflowLab$Liveness" 23 mi_P_hasPoint := Or.inl (tb_m 706 (by decide +kernel) rfl)
theorem lk_L_29 : lk_M "DataflowLab$Liveness" 29 mi_L_flow := Or.inl (tb_m 710 (by decide +kernel) rfl)
theorem fd_L_33 : fd_F "DataflowLab$Liveness" 33 4 0 := ⟨by decide, by decide, by decide +kernel, Or.inl (tb_m 347 (by decide +kernel) rfl)⟩
theorem lk_D_482 : lk_M "DataflowLab" 482 mi_L_analyse := Or.inl (tb_m 698 (by decide +kernel) rfl)
theorem lk_D_225 : lk_M "DataflowLab" 225 mi_D_liveness := Or.inl (tb_m 694 (by decide +kernel) rfl)
theorem lk_D_229 : lk_M "DataflowLab" 229 mi_L_liveAt := Or.inl (tb_m 1437 (by decide +kernel) rfl)
theorem lk_D_232 : lk_M "DataflowLab" 232 mi_P_exitPoint := Or.inl (tb_m 1448 (by decide +kernel) rfl)
theorem lk_D_235 : lk_M "DataflowLab" 235 mi_L_liveBehind := Or.inl (tb_m 1449 (by decide +kernel) rfl)
theorem lk_L_45 : lk_M "DataflowLab$Liveness" 45 mi_D_hasBit := Or.inr ⟨"DataflowLab", List.mem_of_getElem? (i := 18) (by decide +kernel)⟩
theorem lk_D_238 : lk_M "DataflowLab" 238 mi_L_isDeadAt := Or.inl (tb_m 1106 (by decide +kernel) rfl)
theorem fd_L_49 : fd_F "DataflowLab$Liveness" 49 7 1 := ⟨by decide, by decide, by decide +kernel, Or.inr ⟨"DataflowLab", List.mem_of_getElem? (i := 5) (by decide +kernel)⟩⟩
theorem lk_L_53 : lk_M "DataflowLab$Liveness" 53 mi_L_isDeadAt := Or.inl (tb_m 765 (by decide +kernel) rfl)
theorem lk_D_242 : lk_M "DataflowLab" 242 mi_L_countDead := Or.inl (tb_m 761 (by decide +kernel) rfl)
theorem lk_L_56 : lk_M "DataflowLab$Liveness" 56 mi_JI_bitCount := Or.inl (tb_m 780 (by decide +kernel) rfl)
theorem lk_L_61 : lk_M "DataflowLab$Liveness" 61 mi_JM_max := Or.inl (tb_m 786 (by decide +kernel) rfl)
theorem lk_D_246 : lk_M "DataflowLab" 246 mi_L_largestSet := Or.inl (tb_m 776 (by decide +kernel) rfl)
theorem lk_L_67 : lk_M "DataflowLab$Liveness" 67 mi_P_kindAt := Or.inl (tb_m 1478 (by decide +kernel) rfl)
theorem lk_L_70 : lk_M "DataflowLab$Liveness" 70 mi_P_operandAt := Or.inl (tb_m 1479 (by decide +kernel) rfl)
theorem lk_D_249 : lk_M "DataflowLab" 249 mi_L_clashes := Or.inl (tb_m 1474 (by decide +kernel) rfl)
theorem fd_A_63 : fd_F "DataflowLab$Available" 63 7 1 := ⟨by decide, by decide, by decide +kernel, Or.inr ⟨"DataflowLab", List.mem_of_getElem? (i := 4) (by decide +kernel)⟩⟩
theorem lk_A_70 : lk_M "DataflowLab$Available" 70 mi_P_kindAt := Or.inl (tb_m 855 (by decide +kernel) rfl)
theorem lk_A_87 : lk_M "DataflowLab$Available" 87 mi_P_word := Or.inl (tb_m 856 (by decide +kernel) rfl)
theorem lk_A_90 : lk_M "DataflowLab$Available" 90 mi_O_expression := Or.inl (tb_m 860 (by decide +kernel) rfl)
theorem lk_A_59 : lk_M "DataflowLab$Available" 59 mi_D_at_b := Or.inr ⟨"DataflowLab", List.mem_of_getElem? (i := 26) (by decide +kernel)⟩
theorem lk_A_43 : lk_M "DataflowLab$Available" 43 mi_D_put_b := Or.inr ⟨"DataflowLab", List.mem_of_getElem? (i := 27) (by decide +kernel)⟩
theorem lk_A_80 : lk_M "DataflowLab$Available" 80 mi_D_fill_a := Or.inr ⟨"DataflowLab", List.mem_of_getElem? (i := 23) (by decide +kernel)⟩
theorem lk_A_84 : lk_M "DataflowLab$Available" 84 mi_D_fill_b := Or.inr ⟨"DataflowLab", List.mem_of_getElem? (i := 24) (by decide +kernel)⟩
theorem lk_A_95 : lk_M "DataflowLab$Available" 95 mi_A_firstWith := Or.inl (tb_m 863 (by decide +kernel) rfl)
theorem lk_A_99 : lk_M "DataflowLab$Available" 99 mi_D_put_a := Or.inr ⟨"DataflowLab", List.mem_of_getElem? (i := 25) (by decide +kernel)⟩
theorem lk_A_102 : lk_M "DataflowLab$Available" 102 mi_P_operandAt := Or.inl (tb_m 867 (by decide +kernel) rfl)
theorem lk_A_106 : lk_M "DataflowLab$Available" 106 mi_A_noteOperand := Or.inl (tb_m 868 (by decide +kernel) rfl)
theorem lk_A_110 : lk_M "DataflowLab$Available" 110 mi_P_definedAt := Or.inl (tb_m 889 (by decide +kernel) rfl)
theorem lk_A_113 : lk_M "DataflowLab$Available" 113 mi_P_nextCount := Or.inl (tb_m 890 (by decide +kernel) rfl)
theorem lk_A_116 : lk_M "DataflowLab$Available" 116 mi_P_nextPoint := Or.inl (tb_m 891 (by decide +kernel) rfl)
theorem lk_A_67 : lk_M "DataflowLab$Available" 67 mi_D_at_a := Or.inr ⟨"DataflowLab", List.mem_of_getElem? (i := 28) (by decide +kernel)⟩
theorem lk_A_22 : lk_M "DataflowLab$Available" 22 mi_A_nameExpressions := Or.inl (tb_m 847 (by decide +kernel) rfl)
theorem lk_A_26 : lk_M "DataflowLab$Available" 26 mi_P_hasPoint := Or.inl (tb_m 878 (by decide +kernel) rfl)
theorem lk_A_32 : lk_M "DataflowLab$Available" 32 mi_P_blockAt := Or.inl (tb_m 879 (by decide +kernel) rfl)
theorem lk_A_36 : lk_M "DataflowLab$Available" 36 mi_G_isReached := Or.inl (tb_m 880 (by decide +kernel) rfl)
theorem lk_A_47 : lk_M "DataflowLab$Available" 47 mi_P_firstPoint := Or.inl (tb_m 882 (by decide +kernel) rfl)
theorem lk_A_51 : lk_M "DataflowLab$Available" 51 mi_A_flow := Or.inl (tb_m 884 (by decide +kernel) rfl)
theorem fd_A_55 : fd_F "DataflowLab$Available" 55 0 0 := ⟨by decide, by decide, by decide +kernel, Or.inl (tb_m 364 (by decide +kernel) rfl)⟩
theorem lk_D_483 : lk_M "DataflowLab" 483 mi_A_analyse := Or.inl (tb_m 843 (by decide +kernel) rfl)
theorem lk_D_253 : lk_M "DataflowLab" 253 mi_D_available := Or.inl (tb_m 793 (by decide +kernel) rfl)
theorem lk_D_257 : lk_M "DataflowLab" 257 mi_A_countNames := Or.inl (tb_m 892 (by decide +kernel) rfl)
theorem lk_A_73 : lk_M "DataflowLab$Available" 73 mi_D_hasBit := Or.inr ⟨"DataflowLab", List.mem_of_getElem? (i := 29) (by decide +kernel)⟩
theorem lk_D_260 : lk_M "DataflowLab" 260 mi_A_isRedundantAt := Or.inl (tb_m 1487 (by decide +kernel) rfl)
theorem lk_A_77 : lk_M "DataflowLab$Available" 77 mi_A_isRedundantAt := Or.inl (tb_m 904 (by decide +kernel) rfl)
theorem lk_D_263 : lk_M "DataflowLab" 263 mi_A_countRedundant := Or.inl (tb_m 900 (by decide +kernel) rfl)
theorem lk_D_266 : lk_M "DataflowLab" 266 mi_A_expressionsAt := Or.inl (tb_m 1495 (by decide +kernel) rfl)
theorem lk_D_269 : lk_M "DataflowLab" 269 mi_G_dominatorSet := Or.inl (tb_m 1506 (by decide +kernel) rfl)
theorem lk_D_272 : lk_M "DataflowLab" 272 mi_G_closestOf := Or.inl (tb_m 1517 (by decide +kernel) rfl)
theorem lk_G_57 : lk_M "DataflowLab$Graph" 57 mi_JI_bitCount := Or.inl (tb_m 917 (by decide +kernel) rfl)
theorem lk_D_275 : lk_M "DataflowLab" 275 mi_G_countBackEdges := Or.inl (tb_m 913 (by decide +kernel) rfl)
theorem lk_D_278 : lk_M "DataflowLab" 278 mi_G_bodyOf := Or.inl (tb_m 1535 (by decide +kernel) rfl)
theorem lk_D_281 : lk_M "DataflowLab" 281 mi_G_countBodiesWith := Or.inl (tb_m 1546 (by decide +kernel) rfl)
theorem lk_C_62 : lk_M "DataflowLab$Constants" 62 mi_D_at_a := Or.inr ⟨"DataflowLab", List.mem_of_getElem? (i := 31) (by decide +kernel)⟩
theorem lk_C_53 : lk_M "DataflowLab$Constants" 53 mi_C_stateBefore := Or.inl (tb_m 936 (by decide +kernel) rfl)
theorem lk_C_91 : lk_M "DataflowLab$Constants" 91 mi_D_put_a := Or.inr ⟨"DataflowLab", List.mem_of_getElem? (i := 32) (by decide +kernel)⟩
theorem lk_O_15 : lk_M "DataflowLab$Code" 15 mi_JM_floorMod := Or.inl (tb_m 968 (by decide +kernel) rfl)
theorem lk_C_101 : lk_M "DataflowLab$Constants" 101 mi_O_kind := Or.inl (tb_m 956 (by decide +kernel) rfl)
theorem lk_C_109 : lk_M "DataflowLab$Constants" 109 mi_O_left := Or.inl (tb_m 960 (by decide +kernel) rfl)
theorem lk_C_112 : lk_M "DataflowLab$Constants" 112 mi_O_right := Or.inl (tb_m 961 (by decide +kernel) rfl)
theorem lk_C_115 : lk_M "DataflowLab$Constants" 115 mi_O_operator := Or.inl (tb_m 962 (by decide +kernel) rfl)
theorem lk_C_118 : lk_M "DataflowLab$Constants" 118 mi_O_result := Or.inl (tb_m 965 (by decide +kernel) rfl)
theorem lk_C_106 : lk_M "DataflowLab$Constants" 106 mi_O_constant := Or.inl (tb_m 957 (by decide +kernel) rfl)
theorem lk_C_82 : lk_M "DataflowLab$Constants" 82 mi_P_definedAt := Or.inl (tb_m 950 (by decide +kernel) rfl)
theorem lk_C_95 : lk_M "DataflowLab$Constants" 95 mi_P_nextCount := Or.inl (tb_m 971 (by decide +kernel) rfl)
theorem lk_C_98 : lk_M "DataflowLab$Constants" 98 mi_P_nextPoint := Or.inl (tb_m 972 (by decide +kernel) rfl)
theorem lk_C_28 : lk_M "DataflowLab$Constants" 28 mi_C_meet := Or.inl (tb_m 932 (by decide +kernel) rfl)
theorem lk_C_85 : lk_M "DataflowLab$Constants" 85 mi_P_word := Or.inl (tb_m 951 (by decide +kernel) rfl)
theorem lk_C_88 : lk_M "DataflowLab$Constants" 88 mi_C_stateOfResult := Or.inl (tb_m 952 (by decide +kernel) rfl)
theorem lk_C_18 : lk_M "DataflowLab$Constants" 18 mi_D_fill_a := Or.inr ⟨"DataflowLab", List.mem_of_getElem? (i := 30) (by decide +kernel)⟩
theorem lk_C_22 : lk_M "DataflowLab$Constants" 22 mi_P_firstPoint := Or.inl (tb_m 931 (by decide +kernel) rfl)
theorem lk_C_33 : lk_M "DataflowLab$Constants" 33 mi_P_hasPoint := Or.inl (tb_m 943 (by decide +kernel) rfl)
theorem lk_C_37 : lk_M "DataflowLab$Constants" 37 mi_P_blockAt := Or.inl (tb_m 944 (by decide +kernel) rfl)
theorem lk_C_40 : lk_M "DataflowLab$Constants" 40 mi_G_isReached := Or.inl (tb_m 945 (by decide +kernel) rfl)
theorem lk_C_45 : lk_M "DataflowLab$Constants" 45 mi_C_flow := Or.inl (tb_m 946 (by decide +kernel) rfl)
theorem fd_C_49 : fd_F "DataflowLab$Constants" 49 1 0 := ⟨by decide, by decide, by decide +kernel, Or.inl (tb_m 384 (by decide +kernel) rfl)⟩
theorem lk_D_486 : lk_M "DataflowLab" 486 mi_C_analyse := Or.inl (tb_m 926 (by decide +kernel) rfl)
theorem lk_C_57 : lk_M "DataflowLab$Constants" 57 mi_JM_max := Or.inl (tb_m 990 (by decide +kernel) rfl)
theorem lk_D_284 : lk_M "DataflowLab" 284 mi_D_constants := Or.inl (tb_m 922 (by decide +kernel) rfl)
theorem lk_D_288 : lk_M "DataflowLab" 288 mi_C_constantBefore := Or.inl (tb_m 1557 (by decide +kernel) rfl)
theorem lk_D_291 : lk_M "DataflowLab" 291 mi_C_constantGiven := Or.inl (tb_m 1120 (by decide +kernel) rfl)
theorem fd_C_66 : fd_F "DataflowLab$Constants" 66 7 0 := ⟨by decide, by decide, by decide +kernel, Or.inr ⟨"DataflowLab", List.mem_of_getElem? (i := 1) (by decide +kernel)⟩⟩
theorem lk_C_70 : lk_M "DataflowLab$Constants" 70 mi_P_wayCount := Or.inl (tb_m 977 (by decide +kernel) rfl)
theorem lk_C_73 : lk_M "DataflowLab$Constants" 73 mi_P_exitPoint := Or.inl (tb_m 978 (by decide +kernel) rfl)
theorem lk_C_76 : lk_M "DataflowLab$Constants" 76 mi_P_testedBy := Or.inl (tb_m 982 (by decide +kernel) rfl)
theorem lk_C_79 : lk_M "DataflowLab$Constants" 79 mi_C_constantBefore := Or.inl (tb_m 986 (by decide +kernel) rfl)
theorem lk_D_294 : lk_M "DataflowLab" 294 mi_C_countDecided := Or.inl (tb_m 973 (by decide +kernel) rfl)
theorem th_D_105_457_109 : th_W "DataflowLab" "java/lang/IllegalArgumentException" 105 457 109 "no such limit" 19 ["java/lang/RuntimeException", "java/lang/Exception"] := ⟨⟨by decide +kernel, by decide +kernel⟩, ⟨tb_m 1231 (by decide +kernel) rfl, tb_m 166 (by decide +kernel) rfl⟩, List.mem_of_getElem? (i := 19) (by decide +kernel), List.mem_of_getElem? (i := 1) (by decide +kernel), ⟨tc_D_109.1, tc_D_109.2.1⟩, fun w hw => by
  rcases List.mem_cons.mp hw with e | e
  · rw [e]; rfl
  · rcases List.mem_cons.mp e with e | e
    · rw [e]; rfl
    · exact tc_D_109.2.2 w e⟩
theorem lk_N_29 : lk_M "DataflowLab$Machine" 29 mi_D_fill_a := Or.inr ⟨"DataflowLab", List.mem_of_getElem? (i := 39) (by decide +kernel)⟩
theorem lk_N_33 : lk_M "DataflowLab$Machine" 33 mi_D_put_a := Or.inr ⟨"DataflowLab", List.mem_of_getElem? (i := 40) (by decide +kernel)⟩
theorem fd_N_37 : fd_F "DataflowLab$Machine" 37 5 2 := ⟨by decide, by decide, by decide +kernel, Or.inl (tb_m 403 (by decide +kernel) rfl)⟩
theorem lk_N_41 : lk_M "DataflowLab$Machine" 41 mi_P_firstPoint := Or.inl (tb_m 1034 (by decide +kernel) rfl)
theorem fd_N_47 : fd_F "DataflowLab$Machine" 47 5 3 := ⟨by decide, by decide, by decide +kernel, Or.inl (tb_m 404 (by decide +kernel) rfl)⟩
theorem fd_N_50 : fd_F "DataflowLab$Machine" 50 5 4 := ⟨by decide, by decide, by decide +kernel, Or.inl (tb_m 405 (by decide +kernel) rfl)⟩
theorem fd_N_53 : fd_F "DataflowLab$Machine" 53 5 5 := ⟨by decide, by decide, by decide +kernel, Or.inl (tb_m 407 (by decide +kernel) rfl)⟩
theorem fd_N_22 : fd_F "DataflowLab$Machine" 22 5 6 := ⟨by decide, by decide, by decide +kernel, Or.inl (tb_m 409 (by decide +kernel) rfl)⟩
theorem lk_N_91 : lk_M "DataflowLab$Machine" 91 mi_P_wayCount := Or.inl (tb_m 1059 (by decide +kernel) rfl)
theorem lk_N_97 : lk_M "DataflowLab$Machine" 97 mi_P_wayOf := Or.inl (tb_m 1061 (by decide +kernel) rfl)
theorem lk_N_77 : lk_M "DataflowLab$Machine" 77 mi_D_at_a := Or.inr ⟨"DataflowLab", List.mem_of_getElem? (i := 41) (by decide +kernel)⟩
theorem lk_N_94 : lk_M "DataflowLab$Machine" 94 mi_P_testedBy := Or.inl (tb_m 1060 (by decide +kernel) rfl)
theorem lk_N_100 : lk_M "DataflowLab$Machine" 100 mi_O_kind := Or.inl (tb_m 1067 (by decide +kernel) rfl)
theorem lk_N_105 : lk_M "DataflowLab$Machine" 105 mi_O_left := Or.inl (tb_m 1068 (by decide +kernel) rfl)
theorem lk_N_121 : lk_M "DataflowLab$Machine" 121 mi_O_target := Or.inl (tb_m 1073 (by decide +kernel) rfl)
theorem lk_N_111 : lk_M "DataflowLab$Machine" 111 mi_O_operator := Or.inl (tb_m 1070 (by decide +kernel) rfl)
theorem lk_N_114 : lk_M "DataflowLab$Machine" 114 mi_O_right := Or.inl (tb_m 1071 (by decide +kernel) rfl)
theorem lk_N_117 : lk_M "DataflowLab$Machine" 117 mi_O_result := Or.inl (tb_m 1072 (by decide +kernel) rfl)
theorem lk_N_108 : lk_M "DataflowLab$Machine" 108 mi_O_constant := Or.inl (tb_m 1069 (by decide +kernel) rfl)
theorem lk_N_56 : lk_M "DataflowLab$Machine" 56 mi_P_kindAt := Or.inl (tb_m 1053 (by decide +kernel) rfl)
theorem lk_N_66 : lk_M "DataflowLab$Machine" 66 mi_P_word := Or.inl (tb_m 1062 (by decide +kernel) rfl)
theorem lk_N_69 : lk_M "DataflowLab$Machine" 69 mi_N_execute := Or.inl (tb_m 1063 (by decide +kernel) rfl)
theorem lk_N_73 : lk_M "DataflowLab$Machine" 73 mi_P_nextPoint := Or.inl (tb_m 1074 (by decide +kernel) rfl)
theorem lk_N_59 : lk_M "DataflowLab$Machine" 59 mi_P_blockAt := Or.inl (tb_m 1054 (by decide +kernel) rfl)
theorem lk_N_62 : lk_M "DataflowLab$Machine" 62 mi_N_leaveBlock := Or.inl (tb_m 1055 (by decide +kernel) rfl)
theorem lk_N_18 : lk_M "DataflowLab$Machine" 18 mi_N_start := Or.inl (tb_m 1580 (by decide +kernel) rfl)
theorem lk_N_26 : lk_M "DataflowLab$Machine" 26 mi_N_step := Or.inl (tb_m 1581 (by decide +kernel) rfl)
theorem lk_D_297 : lk_M "DataflowLab" 297 mi_D_requireLimit := Or.inl (tb_m 1572 (by decide +kernel) rfl)
theorem lk_D_300 : lk_M "DataflowLab" 300 mi_N_run := Or.inl (tb_m 1576 (by decide +kernel) rfl)
theorem fd_D_304 : fd_F "DataflowLab" 304 5 4 := ⟨by decide, by decide, by decide +kernel, Or.inr ⟨"DataflowLab", List.mem_of_getElem? (i := 17) (by decide +kernel)⟩⟩
theorem lm_D_297 : Cond.methodLink "DataflowLab" 297 (mi_y mi_D_requireLimit) ∈ tb_G := tb_m 1572 (by decide +kernel) rfl
theorem fd_D_307 : fd_F "DataflowLab" 307 5 6 := ⟨by decide, by decide, by decide +kernel, Or.inr ⟨"DataflowLab", List.mem_of_getElem? (i := 19) (by decide +kernel)⟩⟩
theorem th_D_105_459_109 : th_W "DataflowLab" "java/lang/IllegalArgumentException" 105 459 109 "no such number of steps" 20 ["java/lang/RuntimeException", "java/lang/Exception"] := ⟨⟨by decide +kernel, by decide +kernel⟩, ⟨tb_m 1231 (by decide +kernel) rfl, tb_m 166 (by decide +kernel) rfl⟩, List.mem_of_getElem? (i := 20) (by decide +kernel), List.mem_of_getElem? (i := 1) (by decide +kernel), ⟨tc_D_109.1, tc_D_109.2.1⟩, fun w hw => by
  rcases List.mem_cons.mp hw with e | e
  · rw [e]; rfl
  · rcases List.mem_cons.mp e with e | e
    · rw [e]; rfl
    · exact tc_D_109.2.2 w e⟩
theorem lk_D_311 : lk_M "DataflowLab" 311 mi_D_requireSteps := Or.inl (tb_m 1596 (by decide +kernel) rfl)
theorem lk_D_314 : lk_M "DataflowLab" 314 mi_N_value := Or.inl (tb_m 1600 (by decide +kernel) rfl)
theorem lm_D_311 : Cond.methodLink "DataflowLab" 311 (mi_y mi_D_requireSteps) ∈ tb_G := tb_m 1596 (by decide +kernel) rfl
theorem fd_D_317 : fd_F "DataflowLab" 317 5 5 := ⟨by decide, by decide, by decide +kernel, Or.inr ⟨"DataflowLab", List.mem_of_getElem? (i := 18) (by decide +kernel)⟩⟩
theorem lk_D_320 : lk_M "DataflowLab" 320 mi_N_entriesInto := Or.inl (tb_m 1618 (by decide +kernel) rfl)
theorem lk_N_81 : lk_M "DataflowLab$Machine" 81 mi_C_constantBefore := Or.inl (tb_m 1039 (by decide +kernel) rfl)
theorem lk_N_86 : lk_M "DataflowLab$Machine" 86 mi_R_initialsAt := Or.inl (tb_m 1045 (by decide +kernel) rfl)
theorem lk_D_323 : lk_M "DataflowLab" 323 mi_N_start := Or.inl (tb_m 1028 (by decide +kernel) rfl)
theorem lk_D_326 : lk_M "DataflowLab" 326 mi_N_contradicts_a := Or.inl (tb_m 1035 (by decide +kernel) rfl)
theorem lk_D_330 : lk_M "DataflowLab" 330 mi_N_contradicts_b := Or.inl (tb_m 1041 (by decide +kernel) rfl)
theorem lk_D_333 : lk_M "DataflowLab" 333 mi_N_step := Or.inl (tb_m 1049 (by decide +kernel) rfl)
theorem lk_P_45 : lk_M "DataflowLab$Program" 45 mi_P_definedAt := Or.inl (tb_m 1083 (by decide +kernel) rfl)
theorem lk_D_336 : lk_M "DataflowLab" 336 mi_P_countDefinitions := Or.inl (tb_m 1079 (by decide +kernel) rfl)
theorem lk_D_339 : lk_M "DataflowLab" 339 mi_L_sumLive := Or.inl (tb_m 1088 (by decide +kernel) rfl)
theorem th_D_105_443_109 : th_W "DataflowLab" "java/lang/IllegalArgumentException" 105 443 109 "no such position in the block" 21 ["java/lang/RuntimeException", "java/lang/Exception"] := ⟨⟨by decide +kernel, by decide +kernel⟩, ⟨tb_m 1231 (by decide +kernel) rfl, tb_m 166 (by decide +kernel) rfl⟩, List.mem_of_getElem? (i := 21) (by decide +kernel), List.mem_of_getElem? (i := 1) (by decide +kernel), ⟨tc_D_109.1, tc_D_109.2.1⟩, fun w hw => by
  rcases List.mem_cons.mp hw with e | e
  · rw [e]; rfl
  · rcases List.mem_cons.mp e with e | e
    · rw [e]; rfl
    · exact tc_D_109.2.2 w e⟩
theorem th_D_105_453_109 : th_W "DataflowLab" "java/lang/IllegalArgumentException" 105 453 109 "no such constant" 22 ["java/lang/RuntimeException", "java/lang/Exception"] := ⟨⟨by decide +kernel, by decide +kernel⟩, ⟨tb_m 1231 (by decide +kernel) rfl, tb_m 166 (by decide +kernel) rfl⟩, List.mem_of_getElem? (i := 22) (by decide +kernel), List.mem_of_getElem? (i := 1) (by decide +kernel), ⟨tc_D_109.1, tc_D_109.2.1⟩, fun w hw => by
  rcases List.mem_cons.mp hw with e | e
  · rw [e]; rfl
  · rcases List.mem_cons.mp e with e | e
    · rw [e]; rfl
    · exact tc_D_109.2.2 w e⟩
theorem lk_D_445 : lk_M "DataflowLab" 445 mi_P_isFull := Or.inl (tb_m 1642 (by decide +kernel) rfl)
theorem th_D_94_449_98 : th_W "DataflowLab" "java/lang/IllegalStateException" 94 449 98 "the program has 40 instructions" 23 ["java/lang/RuntimeException", "java/lang/Exception"] := ⟨⟨by decide +kernel, by decide +kernel⟩, ⟨tb_m 1154 (by decide +kernel) rfl, tb_m 165 (by decide +kernel) rfl⟩, List.mem_of_getElem? (i := 23) (by decide +kernel), List.mem_of_getElem? (i := 0) (by decide +kernel), ⟨tc_D_98.1, tc_D_98.2.1⟩, fun w hw => by
  rcases List.mem_cons.mp hw with e | e
  · rw [e]; rfl
  · rcases List.mem_cons.mp e with e | e
    · rw [e]; rfl
    · exact tc_D_98.2.2 w e⟩
theorem lk_O_9 : lk_M "DataflowLab$Code" 9 mi_O_pack := Or.inl (tb_m 1128 (by decide +kernel) rfl)
theorem fd_H_21 : fd_F "DataflowLab$History" 21 3 1 := ⟨by decide, by decide, by decide +kernel, Or.inl (tb_m 281 (by decide +kernel) rfl)⟩
theorem lk_H_25 : lk_M "DataflowLab$History" 25 mi_P_copyFrom := Or.inl (tb_m 1101 (by decide +kernel) rfl)
theorem nw_H_9 : nw_W "DataflowLab$History" 9 7 := ⟨by decide, tb_m 278 (by decide +kernel) rfl, tb_m 180 (by decide +kernel) rfl, tb_m 145 (by decide +kernel) rfl⟩
theorem lk_H_24 : lk_M "DataflowLab$History" 24 mi_P_init := Or.inr ⟨"DataflowLab", List.mem_of_getElem? (i := 42) (by decide +kernel)⟩
theorem lk_P_53 : lk_M "DataflowLab$Program" 53 mi_P_moveStarts := Or.inl (tb_m 1111 (by decide +kernel) rfl)
theorem lk_D_400 : lk_M "DataflowLab" 400 mi_P_startOf := Or.inl (tb_m 1648 (by decide +kernel) rfl)
theorem lk_D_368 : lk_M "DataflowLab" 368 mi_H_keep := Or.inl (tb_m 1096 (by decide +kernel) rfl)
theorem lk_D_466 : lk_M "DataflowLab" 466 mi_P_insert := Or.inl (tb_m 1652 (by decide +kernel) rfl)
theorem lk_D_342 : lk_M "DataflowLab" 342 mi_D_requirePosition := Or.inl (tb_m 1629 (by decide +kernel) rfl)
theorem lk_D_346 : lk_M "DataflowLab" 346 mi_D_requireConstant := Or.inl (tb_m 1634 (by decide +kernel) rfl)
theorem lk_D_349 : lk_M "DataflowLab" 349 mi_D_requireRoom := Or.inl (tb_m 1638 (by decide +kernel) rfl)
theorem lk_D_352 : lk_M "DataflowLab" 352 mi_O_set := Or.inl (tb_m 1125 (by decide +kernel) rfl)
theorem lk_D_357 : lk_M "DataflowLab" 357 mi_D_insertWord := Or.inl (tb_m 1644 (by decide +kernel) rfl)
theorem lm_D_349 : Cond.methodLink "DataflowLab" 349 (mi_y mi_D_requireRoom) ∈ tb_G := tb_m 1638 (by decide +kernel) rfl
theorem lm_D_346 : Cond.methodLink "DataflowLab" 346 (mi_y mi_D_requireConstant) ∈ tb_G := tb_m 1634 (by decide +kernel) rfl
theorem lm_D_342 : Cond.methodLink "DataflowLab" 342 (mi_y mi_D_requirePosition) ∈ tb_G := tb_m 1629 (by decide +kernel) rfl
theorem th_D_105_455_109 : th_W "DataflowLab" "java/lang/IllegalArgumentException" 105 455 109 "no such operator" 24 ["java/lang/RuntimeException", "java/lang/Exception"] := ⟨⟨by decide +kernel, by decide +kernel⟩, ⟨tb_m 1231 (by decide +kernel) rfl, tb_m 166 (by decide +kernel) rfl⟩, List.mem_of_getElem? (i := 24) (by decide +kernel), List.mem_of_getElem? (i := 1) (by decide +kernel), ⟨tc_D_109.1, tc_D_109.2.1⟩, fun w hw => by
  rcases List.mem_cons.mp hw with e | e
  · rw [e]; rfl
  · rcases List.mem_cons.mp e with e | e
    · rw [e]; rfl
    · exact tc_D_109.2.2 w e⟩
theorem lk_D_361 : lk_M "DataflowLab" 361 mi_D_requireOperator := Or.inl (tb_m 1663 (by decide +kernel) rfl)
theorem lk_D_364 : lk_M "DataflowLab" 364 mi_O_calc := Or.inl (tb_m 1667 (by decide +kernel) rfl)
theorem lm_D_361 : Cond.methodLink "DataflowLab" 361 (mi_y mi_D_requireOperator) ∈ tb_G := tb_m 1663 (by decide +kernel) rfl
theorem lk_D_371 : lk_M "DataflowLab" 371 mi_P_remove := Or.inl (tb_m 1107 (by decide +kernel) rfl)
theorem lk_D_377 : lk_M "DataflowLab" 377 mi_P_exitByGoto := Or.inl (tb_m 1684 (by decide +kernel) rfl)
theorem lk_D_380 : lk_M "DataflowLab" 380 mi_G_countReached := Or.inl (tb_m 1685 (by decide +kernel) rfl)
theorem lk_D_383 : lk_M "DataflowLab" 383 mi_P_exitByBranch := Or.inl (tb_m 1696 (by decide +kernel) rfl)
theorem lk_D_387 : lk_M "DataflowLab" 387 mi_D_dropDead := Or.inl (tb_m 1102 (by decide +kernel) rfl)
theorem lk_D_391 : lk_M "DataflowLab" 391 mi_P_definedAt := Or.inl (tb_m 1124 (by decide +kernel) rfl)
theorem lk_D_394 : lk_M "DataflowLab" 394 mi_P_replace := Or.inl (tb_m 1129 (by decide +kernel) rfl)
theorem fd_W_15 : fd_F "DataflowLab$Writer" 15 9 1 := ⟨by decide, by decide, by decide +kernel, Or.inl (tb_m 265 (by decide +kernel) rfl)⟩
theorem lk_W_87 : lk_M "DataflowLab$Writer" 87 mi_D_put_a := Or.inr ⟨"DataflowLab", List.mem_of_getElem? (i := 45) (by decide +kernel)⟩
theorem lm_W_91 : Cond.methodLink "DataflowLab$Writer" 91 (mi_y mi_JS_length) ∈ tb_G := tb_m 1723 (by decide +kernel) rfl
theorem lm_W_96 : Cond.methodLink "DataflowLab$Writer" 96 (mi_y mi_JS_charAt) ∈ tb_G := tb_m 1724 (by decide +kernel) rfl
theorem lk_W_66 : lk_M "DataflowLab$Writer" 66 mi_W_writeByte := Or.inl (tb_m 1725 (by decide +kernel) rfl)
theorem lk_W_31 : lk_M "DataflowLab$Writer" 31 mi_W_writeText := Or.inl (tb_m 1719 (by decide +kernel) rfl)
theorem lk_W_23 : lk_M "DataflowLab$Writer" 23 mi_O_kind := Or.inl (tb_m 1717 (by decide +kernel) rfl)
theorem lk_W_50 : lk_M "DataflowLab$Writer" 50 mi_O_left := Or.inl (tb_m 1741 (by decide +kernel) rfl)
theorem lk_W_38 : lk_M "DataflowLab$Writer" 38 mi_W_writeVariable := Or.inl (tb_m 1731 (by decide +kernel) rfl)
theorem lk_W_35 : lk_M "DataflowLab$Writer" 35 mi_O_target := Or.inl (tb_m 1730 (by decide +kernel) rfl)
theorem lk_W_55 : lk_M "DataflowLab$Writer" 55 mi_O_operator := Or.inl (tb_m 1743 (by decide +kernel) rfl)
theorem lk_W_58 : lk_M "DataflowLab$Writer" 58 mi_W_writeOperator := Or.inl (tb_m 1744 (by decide +kernel) rfl)
theorem lk_W_61 : lk_M "DataflowLab$Writer" 61 mi_O_right := Or.inl (tb_m 1751 (by decide +kernel) rfl)
theorem lk_W_42 : lk_M "DataflowLab$Writer" 42 mi_O_constant := Or.inl (tb_m 1735 (by decide +kernel) rfl)
theorem lk_W_45 : lk_M "DataflowLab$Writer" 45 mi_W_writeNumber := Or.inl (tb_m 1736 (by decide +kernel) rfl)
theorem lk_W_69 : lk_M "DataflowLab$Writer" 69 mi_P_wayCount := Or.inl (tb_m 1757 (by decide +kernel) rfl)
theorem lk_W_84 : lk_M "DataflowLab$Writer" 84 mi_P_testedBy := Or.inl (tb_m 1762 (by decide +kernel) rfl)
theorem lk_W_78 : lk_M "DataflowLab$Writer" 78 mi_P_wayOf := Or.inl (tb_m 1760 (by decide +kernel) rfl)
theorem lk_D_397 : lk_M "DataflowLab" 397 mi_W_clear := Or.inl (tb_m 1704 (by decide +kernel) rfl)
theorem lk_D_403 : lk_M "DataflowLab" 403 mi_P_endOf := Or.inl (tb_m 1708 (by decide +kernel) rfl)
theorem lk_D_406 : lk_M "DataflowLab" 406 mi_P_word := Or.inl (tb_m 1712 (by decide +kernel) rfl)
theorem lk_D_409 : lk_M "DataflowLab" 409 mi_W_writeInstruction := Or.inl (tb_m 1713 (by decide +kernel) rfl)
theorem lk_D_412 : lk_M "DataflowLab" 412 mi_W_writeExit := Or.inl (tb_m 1753 (by decide +kernel) rfl)
theorem fd_D_415 : fd_F "DataflowLab" 415 9 1 := ⟨by decide, by decide, by decide +kernel, Or.inr ⟨"DataflowLab", List.mem_of_getElem? (i := 10) (by decide +kernel)⟩⟩
theorem lk_W_19 : lk_M "DataflowLab$Writer" 19 mi_D_at_a := Or.inr ⟨"DataflowLab", List.mem_of_getElem? (i := 43) (by decide +kernel)⟩
theorem lk_D_418 : lk_M "DataflowLab" 418 mi_W_byteAt := Or.inl (tb_m 1137 (by decide +kernel) rfl)
theorem lk_D_421 : lk_M "DataflowLab" 421 mi_H_takeBack := Or.inl (tb_m 1770 (by decide +kernel) rfl)
theorem fd_D_426 : fd_F "DataflowLab" 426 3 2 := ⟨by decide, by decide, by decide +kernel, Or.inr ⟨"DataflowLab", List.mem_of_getElem? (i := 11) (by decide +kernel)⟩⟩
theorem th_D_94_424_98 : th_W "DataflowLab" "java/lang/IllegalStateException" 94 424 98 "no action can be undone" 28 ["java/lang/RuntimeException", "java/lang/Exception"] := ⟨⟨by decide +kernel, by decide +kernel⟩, ⟨tb_m 1154 (by decide +kernel) rfl, tb_m 165 (by decide +kernel) rfl⟩, List.mem_of_getElem? (i := 35) (by decide +kernel), List.mem_of_getElem? (i := 0) (by decide +kernel), ⟨tc_D_98.1, tc_D_98.2.1⟩, fun w hw => by
  rcases List.mem_cons.mp hw with e | e
  · rw [e]; rfl
  · rcases List.mem_cons.mp e with e | e
    · rw [e]; rfl
    · exact tc_D_98.2.2 w e⟩
theorem th_D_105_429_109 : th_W "DataflowLab" "java/lang/IllegalArgumentException" 105 429 109 "no such snapshot number" 29 ["java/lang/RuntimeException", "java/lang/Exception"] := ⟨⟨by decide +kernel, by decide +kernel⟩, ⟨tb_m 1231 (by decide +kernel) rfl, tb_m 166 (by decide +kernel) rfl⟩, List.mem_of_getElem? (i := 36) (by decide +kernel), List.mem_of_getElem? (i := 1) (by decide +kernel), ⟨tc_D_109.1, tc_D_109.2.1⟩, fun w hw => by
  rcases List.mem_cons.mp hw with e | e
  · rw [e]; rfl
  · rcases List.mem_cons.mp e with e | e
    · rw [e]; rfl
    · exact tc_D_109.2.2 w e⟩
theorem th_D_94_434_98 : th_W "DataflowLab" "java/lang/IllegalStateException" 94 434 98 "there is no such snapshot" 30 ["java/lang/RuntimeException", "java/lang/Exception"] := ⟨⟨by decide +kernel, by decide +kernel⟩, ⟨tb_m 1154 (by decide +kernel) rfl, tb_m 165 (by decide +kernel) rfl⟩, List.mem_of_getElem? (i := 37) (by decide +kernel), List.mem_of_getElem? (i := 0) (by decide +kernel), ⟨tc_D_98.1, tc_D_98.2.1⟩, fun w hw => by
  rcases List.mem_cons.mp hw with e | e
  · rw [e]; rfl
  · rcases List.mem_cons.mp e with e | e
    · rw [e]; rfl
    · exact tc_D_98.2.2 w e⟩
theorem fd_M_7 : fd_F "DataflowLabModel" 7 11 0 := ⟨by decide, by decide, by decide +kernel, Or.inl (tb_m 1833 (by decide +kernel) rfl)⟩
theorem fd_M_58 : fd_F "DataflowLabModel" 58 11 2 := ⟨by decide, by decide, by decide +kernel, Or.inl (tb_m 1835 (by decide +kernel) rfl)⟩
theorem lk_M_65 : lk_M "DataflowLabModel" 65 mi_M_lay := Or.inl (tb_m 1809 (by decide +kernel) rfl)
theorem lk_M_61 : lk_M "DataflowLabModel" 61 mi_M_get := Or.inl (tb_m 1801 (by decide +kernel) rfl)
theorem lk_M_73 : lk_M "DataflowLabModel" 73 mi_M_layBlock := Or.inl (tb_m 1805 (by decide +kernel) rfl)
theorem lk_M_69 : lk_M "DataflowLabModel" 69 mi_M_layItem := Or.inl (tb_m 1821 (by decide +kernel) rfl)
theorem lk_M_76 : lk_M "DataflowLabModel" 76 mi_M_writes := Or.inl (tb_m 1817 (by decide +kernel) rfl)
theorem lk_M_80 : lk_M "DataflowLabModel" 80 mi_M_bl := Or.inl (tb_m 1825 (by decide +kernel) rfl)
theorem ob_M_1 : Cond.methodLink "DataflowLabModel" 1 Lib.objectInit ∈ tb_G ∧ Cond.instanceMethod Lib.objectInit ∈ tb_G ∧ Cond.code Lib.objectInit ⟨#[0xb1]⟩ 1 none ∈ tb_G := ⟨tb_m 1796 (by decide +kernel) rfl, tb_m 177 (by decide +kernel) rfl, tb_m 178 (by decide +kernel) (by decide +kernel)⟩
theorem fd_M_13 : fd_F "DataflowLabModel" 13 11 1 := ⟨by decide, by decide, by decide +kernel, Or.inl (tb_m 1834 (by decide +kernel) rfl)⟩
theorem fd_M_17 : fd_F "DataflowLabModel" 17 11 5 := ⟨by decide, by decide, by decide +kernel, Or.inl (tb_m 1838 (by decide +kernel) rfl)⟩
theorem fd_M_20 : fd_F "DataflowLabModel" 20 11 6 := ⟨by decide, by decide, by decide +kernel, Or.inl (tb_m 1839 (by decide +kernel) rfl)⟩
theorem fd_M_23 : fd_F "DataflowLabModel" 23 11 7 := ⟨by decide, by decide, by decide +kernel, Or.inl (tb_m 1840 (by decide +kernel) rfl)⟩
theorem fd_M_26 : fd_F "DataflowLabModel" 26 11 8 := ⟨by decide, by decide, by decide +kernel, Or.inl (tb_m 1841 (by decide +kernel) rfl)⟩
theorem fd_M_29 : fd_F "DataflowLabModel" 29 11 9 := ⟨by decide, by decide, by decide +kernel, Or.inl (tb_m 1842 (by decide +kernel) rfl)⟩
theorem fd_M_32 : fd_F "DataflowLabModel" 32 11 14 := ⟨by decide, by decide, by decide +kernel, Or.inl (tb_m 1847 (by decide +kernel) rfl)⟩
theorem fd_M_35 : fd_F "DataflowLabModel" 35 11 17 := ⟨by decide, by decide, by decide +kernel, Or.inl (tb_m 1850 (by decide +kernel) rfl)⟩
theorem fd_M_39 : fd_F "DataflowLabModel" 39 11 22 := ⟨by decide, by decide, by decide +kernel, Or.inl (tb_m 1855 (by decide +kernel) rfl)⟩
theorem fd_M_42 : fd_F "DataflowLabModel" 42 11 23 := ⟨by decide, by decide, by decide +kernel, Or.inl (tb_m 1856 (by decide +kernel) rfl)⟩
theorem lk_M_45 : lk_M "DataflowLabModel" 45 mi_M_newBlock := Or.inl (tb_m 1797 (by decide +kernel) rfl)
theorem lk_M_48 : lk_M "DataflowLabModel" 48 mi_M_newItem := Or.inl (tb_m 1813 (by decide +kernel) rfl)
theorem lk_M_52 : lk_M "DataflowLabModel" 52 mi_M_exits := Or.inl (tb_m 1829 (by decide +kernel) rfl)
theorem fd_M_55 : fd_F "DataflowLabModel" 55 11 4 := ⟨by decide, by decide, by decide +kernel, Or.inl (tb_m 1837 (by decide +kernel) rfl)⟩
theorem lk_M_84 : lk_M "DataflowLabModel" 84 mi_M_firstOf := Or.inl (tb_m 2055 (by decide +kernel) rfl)
theorem lk_M_87 : lk_M "DataflowLabModel" 87 mi_M_endOf := Or.inl (tb_m 2051 (by decide +kernel) rfl)
theorem lk_M_90 : lk_M "DataflowLabModel" 90 mi_M_ways := Or.inl (tb_m 2003 (by decide +kernel) rfl)
theorem lk_M_93 : lk_M "DataflowLabModel" 93 mi_M_way := Or.inl (tb_m 2007 (by decide +kernel) rfl)
theorem lk_M_96 : lk_M "DataflowLabModel" 96 mi_M_it := Or.inl (tb_m 2063 (by decide +kernel) rfl)
theorem lk_M_99 : lk_M "DataflowLabModel" 99 mi_M_isDefinition := Or.inl (tb_m 2106 (by decide +kernel) rfl)
theorem lk_M_103 : lk_M "DataflowLabModel" 103 mi_M_defines := Or.inl (tb_m 2102 (by decide +kernel) rfl)
theorem lk_M_111 : lk_M "DataflowLabModel" 111 mi_M_walks := Or.inl (tb_m 2094 (by decide +kernel) rfl)
theorem lk_M_107 : lk_M "DataflowLabModel" 107 mi_M_definesWithin := Or.inl (tb_m 2098 (by decide +kernel) rfl)
theorem lk_M_114 : lk_M "DataflowLabModel" 114 mi_M_forgets := Or.inl (tb_m 2090 (by decide +kernel) rfl)
theorem lk_M_117 : lk_M "DataflowLabModel" 117 mi_M_one := Or.inl (tb_m 2079 (by decide +kernel) rfl)
theorem lk_M_121 : lk_M "DataflowLabModel" 121 mi_M_blockAt := Or.inl (tb_m 2047 (by decide +kernel) rfl)
theorem lk_M_124 : lk_M "DataflowLabModel" 124 mi_M_in := Or.inl (tb_m 1934 (by decide +kernel) rfl)
theorem lk_M_127 : lk_M "DataflowLabModel" 127 mi_M_reachesStart := Or.inl (tb_m 2118 (by decide +kernel) rfl)
theorem lk_M_130 : lk_M "DataflowLabModel" 130 mi_M_isFirstAt := Or.inl (tb_m 2134 (by decide +kernel) rfl)
theorem lk_M_133 : lk_M "DataflowLabModel" 133 mi_M_uses := Or.inl (tb_m 2142 (by decide +kernel) rfl)
theorem lk_M_136 : lk_M "DataflowLabModel" 136 mi_M_usesAtExit := Or.inl (tb_m 2150 (by decide +kernel) rfl)
theorem lk_M_139 : lk_M "DataflowLabModel" 139 mi_M_fate := Or.inl (tb_m 2170 (by decide +kernel) rfl)
theorem lk_M_143 : lk_M "DataflowLabModel" 143 mi_M_isUsedFrom := Or.inl (tb_m 2178 (by decide +kernel) rfl)
theorem lk_M_146 : lk_M "DataflowLabModel" 146 mi_M_isLiveBehind := Or.inl (tb_m 2174 (by decide +kernel) rfl)
theorem lk_M_149 : lk_M "DataflowLabModel" 149 mi_M_isLiveAt := Or.inl (tb_m 2166 (by decide +kernel) rfl)
theorem lk_M_152 : lk_M "DataflowLabModel" 152 mi_M_isSame := Or.inl (tb_m 2231 (by decide +kernel) rfl)
theorem lk_M_155 : lk_M "DataflowLabModel" 155 mi_M_isReached := Or.inl (tb_m 2086 (by decide +kernel) rfl)
theorem lk_M_158 : lk_M "DataflowLabModel" 158 mi_M_carries := Or.inl (tb_m 2251 (by decide +kernel) rfl)
theorem lk_M_162 : lk_M "DataflowLabModel" 162 mi_M_findsLacking := Or.inl (tb_m 2247 (by decide +kernel) rfl)
theorem lk_M_166 : lk_M "DataflowLabModel" 166 mi_M_isAvailable := Or.inl (tb_m 2243 (by decide +kernel) rfl)
theorem lk_M_169 : lk_M "DataflowLabModel" 169 mi_M_governs := Or.inl (tb_m 2267 (by decide +kernel) rfl)
theorem lk_M_172 : lk_M "DataflowLabModel" 172 mi_M_leads := Or.inl (tb_m 2075 (by decide +kernel) rfl)
theorem lk_M_175 : lk_M "DataflowLabModel" 175 mi_M_isBackEdge := Or.inl (tb_m 2291 (by decide +kernel) rfl)
theorem lk_M_178 : lk_M "DataflowLabModel" 178 mi_M_isHead := Or.inl (tb_m 2303 (by decide +kernel) rfl)
theorem lk_M_181 : lk_M "DataflowLabModel" 181 mi_M_calculates := Or.inl (tb_m 2335 (by decide +kernel) rfl)
theorem lk_M_184 : lk_M "DataflowLabModel" 184 mi_M_given := Or.inl (tb_m 2331 (by decide +kernel) rfl)
theorem lk_M_187 : lk_M "DataflowLabModel" 187 mi_M_comesTo := Or.inl (tb_m 2327 (by decide +kernel) rfl)
theorem lk_M_190 : lk_M "DataflowLabModel" 190 mi_M_meets := Or.inl (tb_m 2339 (by decide +kernel) rfl)
theorem lk_M_193 : lk_M "DataflowLabModel" 193 mi_M_spreads := Or.inl (tb_m 2323 (by decide +kernel) rfl)
theorem lk_M_196 : lk_M "DataflowLabModel" 196 mi_M_findsConstants := Or.inl (tb_m 2319 (by decide +kernel) rfl)
theorem lk_M_199 : lk_M "DataflowLabModel" 199 mi_JM_max := Or.inl (tb_m 2214 (by decide +kernel) rfl)
theorem fd_M_204 : fd_F "DataflowLabModel" 204 11 10 := ⟨by decide, by decide, by decide +kernel, Or.inl (tb_m 1843 (by decide +kernel) rfl)⟩
theorem fd_M_207 : fd_F "DataflowLabModel" 207 11 11 := ⟨by decide, by decide, by decide +kernel, Or.inl (tb_m 1844 (by decide +kernel) rfl)⟩
theorem fd_M_210 : fd_F "DataflowLabModel" 210 11 12 := ⟨by decide, by decide, by decide +kernel, Or.inl (tb_m 1845 (by decide +kernel) rfl)⟩
theorem fd_M_213 : fd_F "DataflowLabModel" 213 11 13 := ⟨by decide, by decide, by decide +kernel, Or.inl (tb_m 1846 (by decide +kernel) rfl)⟩
theorem lk_M_217 : lk_M "DataflowLabModel" 217 mi_M_enters := Or.inl (tb_m 2374 (by decide +kernel) rfl)
theorem lk_M_220 : lk_M "DataflowLabModel" 220 mi_M_begins := Or.inl (tb_m 2366 (by decide +kernel) rfl)
theorem lk_M_223 : lk_M "DataflowLabModel" 223 mi_M_steps := Or.inl (tb_m 2370 (by decide +kernel) rfl)
theorem fd_M_226 : fd_F "DataflowLabModel" 226 11 15 := ⟨by decide, by decide, by decide +kernel, Or.inl (tb_m 1848 (by decide +kernel) rfl)⟩
theorem fd_M_229 : fd_F "DataflowLabModel" 229 11 18 := ⟨by decide, by decide, by decide +kernel, Or.inl (tb_m 1851 (by decide +kernel) rfl)⟩
theorem lk_M_232 : lk_M "DataflowLabModel" 232 mi_M_isByte := Or.inl (tb_m 1930 (by decide +kernel) rfl)
theorem fd_M_235 : fd_F "DataflowLabModel" 235 11 19 := ⟨by decide, by decide, by decide +kernel, Or.inl (tb_m 1852 (by decide +kernel) rfl)⟩
theorem fd_M_238 : fd_F "DataflowLabModel" 238 11 20 := ⟨by decide, by decide, by decide +kernel, Or.inl (tb_m 1853 (by decide +kernel) rfl)⟩
theorem fd_M_241 : fd_F "DataflowLabModel" 241 11 21 := ⟨by decide, by decide, by decide +kernel, Or.inl (tb_m 1854 (by decide +kernel) rfl)⟩
theorem fd_M_245 : fd_F "DataflowLabModel" 245 11 16 := ⟨by decide, by decide, by decide +kernel, Or.inl (tb_m 1849 (by decide +kernel) rfl)⟩
theorem lm_M_248 : Cond.methodLink "DataflowLabModel" 248 (mi_y mi_JS_length) ∈ tb_G := tb_m 1947 (by decide +kernel) rfl
theorem lm_M_253 : Cond.methodLink "DataflowLabModel" 253 (mi_y mi_JS_charAt) ∈ tb_G := tb_m 1948 (by decide +kernel) rfl
theorem lk_M_257 : lk_M "DataflowLabModel" 257 mi_M_next := Or.inl (tb_m 1926 (by decide +kernel) rfl)
theorem lk_M_260 : lk_M "DataflowLabModel" 260 mi_M_must := Or.inl (tb_m 1949 (by decide +kernel) rfl)
theorem lk_M_264 : lk_M "DataflowLabModel" 264 mi_M_goesOn := Or.inl (tb_m 1953 (by decide +kernel) rfl)
theorem lk_M_269 : lk_M "DataflowLabModel" 269 mi_M_isWord := Or.inl (tb_m 1943 (by decide +kernel) rfl)
theorem lk_M_294 : lk_M "DataflowLabModel" 294 mi_M_endsLine := Or.inl (tb_m 1957 (by decide +kernel) rfl)
theorem lk_M_285 : lk_M "DataflowLabModel" 285 mi_M_readsVariable := Or.inl (tb_m 1973 (by decide +kernel) rfl)
theorem lk_M_291 : lk_M "DataflowLabModel" 291 mi_M_readsOperator := Or.inl (tb_m 1981 (by decide +kernel) rfl)
theorem lk_M_288 : lk_M "DataflowLabModel" 288 mi_M_reads := Or.inl (tb_m 1977 (by decide +kernel) rfl)
theorem lk_M_303 : lk_M "DataflowLabModel" 303 mi_M_readsWay := Or.inl (tb_m 1995 (by decide +kernel) rfl)
theorem lk_M_308 : lk_M "DataflowLabModel" 308 mi_M_kindHere := Or.inl (tb_m 1961 (by decide +kernel) rfl)
theorem lk_M_311 : lk_M "DataflowLabModel" 311 mi_M_readsItem := Or.inl (tb_m 1969 (by decide +kernel) rfl)
theorem lk_M_314 : lk_M "DataflowLabModel" 314 mi_M_readsExit := Or.inl (tb_m 1988 (by decide +kernel) rfl)
theorem lk_M_317 : lk_M "DataflowLabModel" 317 mi_M_readsBlock := Or.inl (tb_m 1938 (by decide +kernel) rfl)
theorem lk_M_323 : lk_M "DataflowLabModel" 323 mi_M_copies := Or.inl (tb_m 2011 (by decide +kernel) rfl)
theorem fd_M_326 : fd_F "DataflowLabModel" 326 11 3 := ⟨by decide, by decide, by decide +kernel, Or.inl (tb_m 1836 (by decide +kernel) rfl)⟩
theorem lk_M_320 : lk_M "DataflowLabModel" 320 mi_M_checksWays := Or.inl (tb_m 1999 (by decide +kernel) rfl)
theorem lk_M_329 : lk_M "DataflowLabModel" 329 mi_M_isBlock := Or.inl (tb_m 2035 (by decide +kernel) rfl)
theorem lk_M_332 : lk_M "DataflowLabModel" 332 mi_M_isItem := Or.inl (tb_m 2043 (by decide +kernel) rfl)
theorem lk_M_335 : lk_M "DataflowLabModel" 335 mi_M_isVariable := Or.inl (tb_m 2126 (by decide +kernel) rfl)
theorem lk_M_338 : lk_M "DataflowLabModel" 338 mi_M_reachesPlace := Or.inl (tb_m 2146 (by decide +kernel) rfl)
theorem lk_M_341 : lk_M "DataflowLabModel" 341 mi_M_isFirstAtPlace := Or.inl (tb_m 2158 (by decide +kernel) rfl)
theorem lk_M_344 : lk_M "DataflowLabModel" 344 mi_M_liveAt := Or.inl (tb_m 2190 (by decide +kernel) rfl)
theorem lk_M_347 : lk_M "DataflowLabModel" 347 mi_M_isDead0 := Or.inl (tb_m 2198 (by decide +kernel) rfl)
theorem lk_M_350 : lk_M "DataflowLabModel" 350 mi_M_allDead := Or.inl (tb_m 2206 (by decide +kernel) rfl)
theorem lk_M_353 : lk_M "DataflowLabModel" 353 mi_M_hinders := Or.inl (tb_m 2219 (by decide +kernel) rfl)
theorem lk_M_356 : lk_M "DataflowLabModel" 356 mi_M_isNewest := Or.inl (tb_m 2227 (by decide +kernel) rfl)
theorem lk_M_359 : lk_M "DataflowLabModel" 359 mi_M_isRedundant0 := Or.inl (tb_m 2239 (by decide +kernel) rfl)
theorem lk_M_362 : lk_M "DataflowLabModel" 362 mi_M_governors := Or.inl (tb_m 2279 (by decide +kernel) rfl)
theorem lk_M_365 : lk_M "DataflowLabModel" 365 mi_M_nearestGovernor := Or.inl (tb_m 2275 (by decide +kernel) rfl)
theorem lk_M_368 : lk_M "DataflowLabModel" 368 mi_M_isInLoop := Or.inl (tb_m 2299 (by decide +kernel) rfl)
theorem lk_M_371 : lk_M "DataflowLabModel" 371 mi_M_constantAtPlace := Or.inl (tb_m 2315 (by decide +kernel) rfl)
theorem lk_M_374 : lk_M "DataflowLabModel" 374 mi_M_constantGiven := Or.inl (tb_m 2346 (by decide +kernel) rfl)
theorem lk_M_377 : lk_M "DataflowLabModel" 377 mi_M_isCount := Or.inl (tb_m 2358 (by decide +kernel) rfl)
theorem lk_M_380 : lk_M "DataflowLabModel" 380 mi_M_runs := Or.inl (tb_m 2362 (by decide +kernel) rfl)
theorem lk_M_383 : lk_M "DataflowLabModel" 383 mi_M_definitions := Or.inl (tb_m 2402 (by decide +kernel) rfl)
theorem lk_M_386 : lk_M "DataflowLabModel" 386 mi_M_keeps := Or.inl (tb_m 2422 (by decide +kernel) rfl)
theorem lk_M_389 : lk_M "DataflowLabModel" 389 mi_M_canInsert := Or.inl (tb_m 2414 (by decide +kernel) rfl)
theorem lk_M_392 : lk_M "DataflowLabModel" 392 mi_M_inserts := Or.inl (tb_m 2418 (by decide +kernel) rfl)
theorem lk_M_396 : lk_M "DataflowLabModel" 396 mi_M_removes := Or.inl (tb_m 2434 (by decide +kernel) rfl)
theorem lk_M_399 : lk_M "DataflowLabModel" 399 mi_M_reachedCount := Or.inl (tb_m 2442 (by decide +kernel) rfl)
theorem lk_M_402 : lk_M "DataflowLabModel" 402 mi_M_removesDead := Or.inl (tb_m 2454 (by decide +kernel) rfl)
theorem fd_M_405 : fd_F "DataflowLabModel" 405 11 24 := ⟨by decide, by decide, by decide +kernel, Or.inl (tb_m 1857 (by decide +kernel) rfl)⟩
theorem lk_M_408 : lk_M "DataflowLabModel" 408 mi_M_says := Or.inl (tb_m 2474 (by decide +kernel) rfl)
theorem lk_M_411 : lk_M "DataflowLabModel" 411 mi_M_saysWord := Or.inl (tb_m 2470 (by decide +kernel) rfl)
theorem lk_M_415 : lk_M "DataflowLabModel" 415 mi_M_saysVariable := Or.inl (tb_m 2478 (by decide +kernel) rfl)
theorem lk_M_418 : lk_M "DataflowLabModel" 418 mi_M_saysNumber := Or.inl (tb_m 2482 (by decide +kernel) rfl)
theorem lk_M_427 : lk_M "DataflowLabModel" 427 mi_M_saysItem := Or.inl (tb_m 2466 (by decide +kernel) rfl)
theorem lk_M_430 : lk_M "DataflowLabModel" 430 mi_M_saysExit := Or.inl (tb_m 2489 (by decide +kernel) rfl)
theorem lk_Z_7 : lk_M "DataflowLabLaw" 7 mi_D_appendText := Or.inl (tb_m 1146 (by decide +kernel) rfl)
theorem lm_Z_7 : Cond.methodLink "DataflowLabLaw" 7 (mi_y mi_D_appendText) ∈ tb_G := tb_m 1146 (by decide +kernel) rfl
theorem lk_Z_15 : lk_M "DataflowLabLaw" 15 mi_D_truncateText := Or.inl (tb_m 1227 (by decide +kernel) rfl)
theorem lm_Z_15 : Cond.methodLink "DataflowLabLaw" 15 (mi_y mi_D_truncateText) ∈ tb_G := tb_m 1227 (by decide +kernel) rfl
theorem lk_Z_20 : lk_M "DataflowLabLaw" 20 mi_D_instructionsIn := Or.inl (tb_m 1255 (by decide +kernel) rfl)
theorem lm_Z_20 : Cond.methodLink "DataflowLabLaw" 20 (mi_y mi_D_instructionsIn) ∈ tb_G := tb_m 1255 (by decide +kernel) rfl
theorem lk_Z_25 : lk_M "DataflowLabLaw" 25 mi_D_blockOf := Or.inl (tb_m 1286 (by decide +kernel) rfl)
theorem lm_Z_25 : Cond.methodLink "DataflowLabLaw" 25 (mi_y mi_D_blockOf) ∈ tb_G := tb_m 1286 (by decide +kernel) rfl
theorem lk_Z_28 : lk_M "DataflowLabLaw" 28 mi_D_kindOf := Or.inl (tb_m 1299 (by decide +kernel) rfl)
theorem lm_Z_28 : Cond.methodLink "DataflowLabLaw" 28 (mi_y mi_D_kindOf) ∈ tb_G := tb_m 1299 (by decide +kernel) rfl
theorem lk_Z_31 : lk_M "DataflowLabLaw" 31 mi_D_successor := Or.inl (tb_m 1307 (by decide +kernel) rfl)
theorem lm_Z_31 : Cond.methodLink "DataflowLabLaw" 31 (mi_y mi_D_successor) ∈ tb_G := tb_m 1307 (by decide +kernel) rfl
theorem tk_Z_successor_1 : ∀ z ∈ (tableOf (mi_hh mi_Z_successor)).take 1, z.catchType ≠ 0 ∧ ∃ nm : String, Cond.classLink (mi_own mi_Z_successor) z.catchType nm ∈ tb_G ∧ ("java/util/NoSuchElementException", nm) ∈ gn_X := by
  rw [show (tableOf (mi_hh mi_Z_successor)).take 1 = [⟨0, 10, 13, 23⟩] from rfl]
  exact List.forall_mem_cons.mpr ⟨⟨by decide, "java/lang/IndexOutOfBoundsException", tb_m 1254 (by decide +kernel) rfl, List.mem_of_getElem? (i := 8) (by decide +kernel)⟩, fun _ h => nomatch h⟩
theorem lk_Z_37 : lk_M "DataflowLabLaw" 37 mi_D_predecessors := Or.inl (tb_m 1332 (by decide +kernel) rfl)
theorem lm_Z_37 : Cond.methodLink "DataflowLabLaw" 37 (mi_y mi_D_predecessors) ∈ tb_G := tb_m 1332 (by decide +kernel) rfl
theorem lk_Z_40 : lk_M "DataflowLabLaw" 40 mi_D_isReachable := Or.inl (tb_m 1344 (by decide +kernel) rfl)
theorem lm_Z_40 : Cond.methodLink "DataflowLabLaw" 40 (mi_y mi_D_isReachable) ∈ tb_G := tb_m 1344 (by decide +kernel) rfl
theorem lk_Z_44 : lk_M "DataflowLabLaw" 44 mi_D_distanceTo := Or.inl (tb_m 1352 (by decide +kernel) rfl)
theorem lm_Z_44 : Cond.methodLink "DataflowLabLaw" 44 (mi_y mi_D_distanceTo) ∈ tb_G := tb_m 1352 (by decide +kernel) rfl
theorem lk_Z_47 : lk_M "DataflowLabLaw" 47 mi_D_reaches := Or.inl (tb_m 1363 (by decide +kernel) rfl)
theorem lm_Z_47 : Cond.methodLink "DataflowLabLaw" 47 (mi_y mi_D_reaches) ∈ tb_G := tb_m 1363 (by decide +kernel) rfl
theorem lk_Z_51 : lk_M "DataflowLabLaw" 51 mi_D_reachingDefinitions := Or.inl (tb_m 1376 (by decide +kernel) rfl)
theorem lm_Z_51 : Cond.methodLink "DataflowLabLaw" 51 (mi_y mi_D_reachingDefinitions) ∈ tb_G := tb_m 1376 (by decide +kernel) rfl
theorem tk_Z_reachingDefinitions_1 : ∀ z ∈ (tableOf (mi_hh mi_Z_reachingDefinitions)).take 1, z.catchType ≠ 0 ∧ ∃ nm : String, Cond.classLink (mi_own mi_Z_reachingDefinitions) z.catchType nm ∈ tb_G ∧ ("java/lang/IllegalArgumentException", nm) ∈ gn_X := by
  rw [show (tableOf (mi_hh mi_Z_reachingDefinitions)).take 1 = [⟨0, 10, 13, 23⟩] from rfl]
  exact List.forall_mem_cons.mpr ⟨⟨by decide, "java/lang/IndexOutOfBoundsException", tb_m 1254 (by decide +kernel) rfl, List.mem_of_getElem? (i := 7) (by decide +kernel)⟩, fun _ h => nomatch h⟩
theorem lk_Z_54 : lk_M "DataflowLabLaw" 54 mi_D_isInitialReaching := Or.inl (tb_m 1397 (by decide +kernel) rfl)
theorem lm_Z_54 : Cond.methodLink "DataflowLabLaw" 54 (mi_y mi_D_isInitialReaching) ∈ tb_G := tb_m 1397 (by decide +kernel) rfl
theorem tk_Z_isInitialReaching_1 : ∀ z ∈ (tableOf (mi_hh mi_Z_isInitialReaching)).take 1, z.catchType ≠ 0 ∧ ∃ nm : String, Cond.classLink (mi_own mi_Z_isInitialReaching) z.catchType nm ∈ tb_G ∧ ("java/lang/IllegalArgumentException", nm) ∈ gn_X := by
  rw [show (tableOf (mi_hh mi_Z_isInitialReaching)).take 1 = [⟨0, 17, 20, 23⟩] from rfl]
  exact List.forall_mem_cons.mpr ⟨⟨by decide, "java/lang/IndexOutOfBoundsException", tb_m 1254 (by decide +kernel) rfl, List.mem_of_getElem? (i := 7) (by decide +kernel)⟩, fun _ h => nomatch h⟩
theorem lk_Z_57 : lk_M "DataflowLabLaw" 57 mi_D_usesOf := Or.inl (tb_m 1405 (by decide +kernel) rfl)
theorem lm_Z_57 : Cond.methodLink "DataflowLabLaw" 57 (mi_y mi_D_usesOf) ∈ tb_G := tb_m 1405 (by decide +kernel) rfl
theorem lk_Z_60 : lk_M "DataflowLabLaw" 60 mi_D_onlyDefinition := Or.inl (tb_m 1418 (by decide +kernel) rfl)
theorem lm_Z_60 : Cond.methodLink "DataflowLabLaw" 60 (mi_y mi_D_onlyDefinition) ∈ tb_G := tb_m 1418 (by decide +kernel) rfl
theorem tk_Z_onlyDefinition_1 : ∀ z ∈ (tableOf (mi_hh mi_Z_onlyDefinition)).take 1, z.catchType ≠ 0 ∧ ∃ nm : String, Cond.classLink (mi_own mi_Z_onlyDefinition) z.catchType nm ∈ tb_G ∧ ("java/util/NoSuchElementException", nm) ∈ gn_X := by
  rw [show (tableOf (mi_hh mi_Z_onlyDefinition)).take 1 = [⟨0, 10, 13, 23⟩] from rfl]
  exact List.forall_mem_cons.mpr ⟨⟨by decide, "java/lang/IndexOutOfBoundsException", tb_m 1254 (by decide +kernel) rfl, List.mem_of_getElem? (i := 8) (by decide +kernel)⟩, fun _ h => nomatch h⟩
theorem lk_Z_63 : lk_M "DataflowLabLaw" 63 mi_D_isLiveIn := Or.inl (tb_m 1433 (by decide +kernel) rfl)
theorem lm_Z_63 : Cond.methodLink "DataflowLabLaw" 63 (mi_y mi_D_isLiveIn) ∈ tb_G := tb_m 1433 (by decide +kernel) rfl
theorem tk_Z_isLiveIn_1 : ∀ z ∈ (tableOf (mi_hh mi_Z_isLiveIn)).take 1, z.catchType ≠ 0 ∧ ∃ nm : String, Cond.classLink (mi_own mi_Z_isLiveIn) z.catchType nm ∈ tb_G ∧ ("java/lang/IllegalArgumentException", nm) ∈ gn_X := by
  rw [show (tableOf (mi_hh mi_Z_isLiveIn)).take 1 = [⟨0, 17, 20, 23⟩] from rfl]
  exact List.forall_mem_cons.mpr ⟨⟨by decide, "java/lang/IndexOutOfBoundsException", tb_m 1254 (by decide +kernel) rfl, List.mem_of_getElem? (i := 7) (by decide +kernel)⟩, fun _ h => nomatch h⟩
theorem lk_Z_66 : lk_M "DataflowLabLaw" 66 mi_D_isLiveOut := Or.inl (tb_m 1444 (by decide +kernel) rfl)
theorem lm_Z_66 : Cond.methodLink "DataflowLabLaw" 66 (mi_y mi_D_isLiveOut) ∈ tb_G := tb_m 1444 (by decide +kernel) rfl
theorem tk_Z_isLiveOut_1 : ∀ z ∈ (tableOf (mi_hh mi_Z_isLiveOut)).take 1, z.catchType ≠ 0 ∧ ∃ nm : String, Cond.classLink (mi_own mi_Z_isLiveOut) z.catchType nm ∈ tb_G ∧ ("java/lang/IllegalArgumentException", nm) ∈ gn_X := by
  rw [show (tableOf (mi_hh mi_Z_isLiveOut)).take 1 = [⟨0, 17, 20, 23⟩] from rfl]
  exact List.forall_mem_cons.mpr ⟨⟨by decide, "java/lang/IndexOutOfBoundsException", tb_m 1254 (by decide +kernel) rfl, List.mem_of_getElem? (i := 7) (by decide +kernel)⟩, fun _ h => nomatch h⟩
theorem lk_Z_69 : lk_M "DataflowLabLaw" 69 mi_D_liveBefore := Or.inl (tb_m 1456 (by decide +kernel) rfl)
theorem lm_Z_69 : Cond.methodLink "DataflowLabLaw" 69 (mi_y mi_D_liveBefore) ∈ tb_G := tb_m 1456 (by decide +kernel) rfl
theorem lk_Z_72 : lk_M "DataflowLabLaw" 72 mi_D_isDead := Or.inl (tb_m 1463 (by decide +kernel) rfl)
theorem lm_Z_72 : Cond.methodLink "DataflowLabLaw" 72 (mi_y mi_D_isDead) ∈ tb_G := tb_m 1463 (by decide +kernel) rfl
theorem lk_Z_75 : lk_M "DataflowLabLaw" 75 mi_D_interfere := Or.inl (tb_m 1470 (by decide +kernel) rfl)
theorem lm_Z_75 : Cond.methodLink "DataflowLabLaw" 75 (mi_y mi_D_interfere) ∈ tb_G := tb_m 1470 (by decide +kernel) rfl
theorem lk_Z_78 : lk_M "DataflowLabLaw" 78 mi_D_isRedundant := Or.inl (tb_m 1483 (by decide +kernel) rfl)
theorem lm_Z_78 : Cond.methodLink "DataflowLabLaw" 78 (mi_y mi_D_isRedundant) ∈ tb_G := tb_m 1483 (by decide +kernel) rfl
theorem lk_Z_81 : lk_M "DataflowLabLaw" 81 mi_D_availableAt := Or.inl (tb_m 1491 (by decide +kernel) rfl)
theorem lm_Z_81 : Cond.methodLink "DataflowLabLaw" 81 (mi_y mi_D_availableAt) ∈ tb_G := tb_m 1491 (by decide +kernel) rfl
theorem lk_Z_84 : lk_M "DataflowLabLaw" 84 mi_D_dominates := Or.inl (tb_m 1502 (by decide +kernel) rfl)
theorem lm_Z_84 : Cond.methodLink "DataflowLabLaw" 84 (mi_y mi_D_dominates) ∈ tb_G := tb_m 1502 (by decide +kernel) rfl
theorem lk_Z_87 : lk_M "DataflowLabLaw" 87 mi_D_immediateDominator := Or.inl (tb_m 1513 (by decide +kernel) rfl)
theorem lm_Z_87 : Cond.methodLink "DataflowLabLaw" 87 (mi_y mi_D_immediateDominator) ∈ tb_G := tb_m 1513 (by decide +kernel) rfl
theorem lk_Z_90 : lk_M "DataflowLabLaw" 90 mi_D_commonDominator := Or.inl (tb_m 1524 (by decide +kernel) rfl)
theorem lm_Z_90 : Cond.methodLink "DataflowLabLaw" 90 (mi_y mi_D_commonDominator) ∈ tb_G := tb_m 1524 (by decide +kernel) rfl
theorem lk_Z_93 : lk_M "DataflowLabLaw" 93 mi_D_loopSize := Or.inl (tb_m 1531 (by decide +kernel) rfl)
theorem lm_Z_93 : Cond.methodLink "DataflowLabLaw" 93 (mi_y mi_D_loopSize) ∈ tb_G := tb_m 1531 (by decide +kernel) rfl
theorem lk_Z_96 : lk_M "DataflowLabLaw" 96 mi_D_loopDepth := Or.inl (tb_m 1542 (by decide +kernel) rfl)
theorem lm_Z_96 : Cond.methodLink "DataflowLabLaw" 96 (mi_y mi_D_loopDepth) ∈ tb_G := tb_m 1542 (by decide +kernel) rfl
theorem lk_Z_99 : lk_M "DataflowLabLaw" 99 mi_D_constantAt := Or.inl (tb_m 1553 (by decide +kernel) rfl)
theorem lm_Z_99 : Cond.methodLink "DataflowLabLaw" 99 (mi_y mi_D_constantAt) ∈ tb_G := tb_m 1553 (by decide +kernel) rfl
theorem tk_Z_constantAt_1 : ∀ z ∈ (tableOf (mi_hh mi_Z_constantAt)).take 1, z.catchType ≠ 0 ∧ ∃ nm : String, Cond.classLink (mi_own mi_Z_constantAt) z.catchType nm ∈ tb_G ∧ ("java/lang/IllegalArgumentException", nm) ∈ gn_X := by
  rw [show (tableOf (mi_hh mi_Z_constantAt)).take 1 = [⟨0, 10, 13, 23⟩] from rfl]
  exact List.forall_mem_cons.mpr ⟨⟨by decide, "java/lang/IndexOutOfBoundsException", tb_m 1254 (by decide +kernel) rfl, List.mem_of_getElem? (i := 7) (by decide +kernel)⟩, fun _ h => nomatch h⟩
theorem lk_Z_102 : lk_M "DataflowLabLaw" 102 mi_D_constantOf := Or.inl (tb_m 1561 (by decide +kernel) rfl)
theorem lm_Z_102 : Cond.methodLink "DataflowLabLaw" 102 (mi_y mi_D_constantOf) ∈ tb_G := tb_m 1561 (by decide +kernel) rfl
theorem lk_Z_105 : lk_M "DataflowLabLaw" 105 mi_D_runSteps := Or.inl (tb_m 1568 (by decide +kernel) rfl)
theorem lm_Z_105 : Cond.methodLink "DataflowLabLaw" 105 (mi_y mi_D_runSteps) ∈ tb_G := tb_m 1568 (by decide +kernel) rfl
theorem lk_Z_108 : lk_M "DataflowLabLaw" 108 mi_D_runEnds := Or.inl (tb_m 1585 (by decide +kernel) rfl)
theorem lm_Z_108 : Cond.methodLink "DataflowLabLaw" 108 (mi_y mi_D_runEnds) ∈ tb_G := tb_m 1585 (by decide +kernel) rfl
theorem lk_Z_111 : lk_M "DataflowLabLaw" 111 mi_D_valueAfter := Or.inl (tb_m 1592 (by decide +kernel) rfl)
theorem lm_Z_111 : Cond.methodLink "DataflowLabLaw" 111 (mi_y mi_D_valueAfter) ∈ tb_G := tb_m 1592 (by decide +kernel) rfl
theorem lk_Z_114 : lk_M "DataflowLabLaw" 114 mi_D_lastShown := Or.inl (tb_m 1607 (by decide +kernel) rfl)
theorem lm_Z_114 : Cond.methodLink "DataflowLabLaw" 114 (mi_y mi_D_lastShown) ∈ tb_G := tb_m 1607 (by decide +kernel) rfl
theorem lk_Z_117 : lk_M "DataflowLabLaw" 117 mi_D_visits := Or.inl (tb_m 1614 (by decide +kernel) rfl)
theorem lm_Z_117 : Cond.methodLink "DataflowLabLaw" 117 (mi_y mi_D_visits) ∈ tb_G := tb_m 1614 (by decide +kernel) rfl
theorem tk_Z_visits_1 : ∀ z ∈ (tableOf (mi_hh mi_Z_visits)).take 1, z.catchType ≠ 0 ∧ ∃ nm : String, Cond.classLink (mi_own mi_Z_visits) z.catchType nm ∈ tb_G ∧ ("java/lang/IllegalArgumentException", nm) ∈ gn_X := by
  rw [show (tableOf (mi_hh mi_Z_visits)).take 1 = [⟨0, 10, 13, 23⟩] from rfl]
  exact List.forall_mem_cons.mpr ⟨⟨by decide, "java/lang/IndexOutOfBoundsException", tb_m 1254 (by decide +kernel) rfl, List.mem_of_getElem? (i := 7) (by decide +kernel)⟩, fun _ h => nomatch h⟩
theorem lk_Z_120 : lk_M "DataflowLabLaw" 120 mi_D_insertSet := Or.inl (tb_m 1625 (by decide +kernel) rfl)
theorem lm_Z_120 : Cond.methodLink "DataflowLabLaw" 120 (mi_y mi_D_insertSet) ∈ tb_G := tb_m 1625 (by decide +kernel) rfl
theorem tk_Z_insertSet_2 : ∀ z ∈ (tableOf (mi_hh mi_Z_insertSet)).take 2, z.catchType ≠ 0 ∧ ∃ nm : String, Cond.classLink (mi_own mi_Z_insertSet) z.catchType nm ∈ tb_G ∧ ("java/lang/IllegalStateException", nm) ∈ gn_X := by
  rw [show (tableOf (mi_hh mi_Z_insertSet)).take 2 = [⟨0, 14, 17, 23⟩, ⟨0, 14, 21, 18⟩] from rfl]
  exact List.forall_mem_cons.mpr ⟨⟨by decide, "java/lang/IndexOutOfBoundsException", tb_m 1254 (by decide +kernel) rfl, List.mem_of_getElem? (i := 6) (by decide +kernel)⟩, List.forall_mem_cons.mpr ⟨⟨by decide, "java/lang/IllegalArgumentException", tb_m 1226 (by decide +kernel) rfl, List.mem_of_getElem? (i := 3) (by decide +kernel)⟩, fun _ h => nomatch h⟩⟩
theorem tk_Z_insertSet_1 : ∀ z ∈ (tableOf (mi_hh mi_Z_insertSet)).take 1, z.catchType ≠ 0 ∧ ∃ nm : String, Cond.classLink (mi_own mi_Z_insertSet) z.catchType nm ∈ tb_G ∧ ("java/lang/IllegalArgumentException", nm) ∈ gn_X := by
  rw [show (tableOf (mi_hh mi_Z_insertSet)).take 1 = [⟨0, 14, 17, 23⟩] from rfl]
  exact List.forall_mem_cons.mpr ⟨⟨by decide, "java/lang/IndexOutOfBoundsException", tb_m 1254 (by decide +kernel) rfl, List.mem_of_getElem? (i := 7) (by decide +kernel)⟩, fun _ h => nomatch h⟩
theorem lk_Z_124 : lk_M "DataflowLabLaw" 124 mi_D_insertCalc := Or.inl (tb_m 1659 (by decide +kernel) rfl)
theorem lm_Z_124 : Cond.methodLink "DataflowLabLaw" 124 (mi_y mi_D_insertCalc) ∈ tb_G := tb_m 1659 (by decide +kernel) rfl
theorem tk_Z_insertCalc_2 : ∀ z ∈ (tableOf (mi_hh mi_Z_insertCalc)).take 2, z.catchType ≠ 0 ∧ ∃ nm : String, Cond.classLink (mi_own mi_Z_insertCalc) z.catchType nm ∈ tb_G ∧ ("java/lang/IllegalStateException", nm) ∈ gn_X := by
  rw [show (tableOf (mi_hh mi_Z_insertCalc)).take 2 = [⟨0, 18, 21, 23⟩, ⟨0, 18, 25, 18⟩] from rfl]
  exact List.forall_mem_cons.mpr ⟨⟨by decide, "java/lang/IndexOutOfBoundsException", tb_m 1254 (by decide +kernel) rfl, List.mem_of_getElem? (i := 6) (by decide +kernel)⟩, List.forall_mem_cons.mpr ⟨⟨by decide, "java/lang/IllegalArgumentException", tb_m 1226 (by decide +kernel) rfl, List.mem_of_getElem? (i := 3) (by decide +kernel)⟩, fun _ h => nomatch h⟩⟩
theorem tk_Z_insertCalc_1 : ∀ z ∈ (tableOf (mi_hh mi_Z_insertCalc)).take 1, z.catchType ≠ 0 ∧ ∃ nm : String, Cond.classLink (mi_own mi_Z_insertCalc) z.catchType nm ∈ tb_G ∧ ("java/lang/IllegalArgumentException", nm) ∈ gn_X := by
  rw [show (tableOf (mi_hh mi_Z_insertCalc)).take 1 = [⟨0, 18, 21, 23⟩] from rfl]
  exact List.forall_mem_cons.mpr ⟨⟨by decide, "java/lang/IndexOutOfBoundsException", tb_m 1254 (by decide +kernel) rfl, List.mem_of_getElem? (i := 7) (by decide +kernel)⟩, fun _ h => nomatch h⟩
theorem lk_Z_128 : lk_M "DataflowLabLaw" 128 mi_D_removeInstruction := Or.inl (tb_m 1673 (by decide +kernel) rfl)
theorem lm_Z_128 : Cond.methodLink "DataflowLabLaw" 128 (mi_y mi_D_removeInstruction) ∈ tb_G := tb_m 1673 (by decide +kernel) rfl
theorem lk_Z_131 : lk_M "DataflowLabLaw" 131 mi_D_setGoto := Or.inl (tb_m 1680 (by decide +kernel) rfl)
theorem lm_Z_131 : Cond.methodLink "DataflowLabLaw" 131 (mi_y mi_D_setGoto) ∈ tb_G := tb_m 1680 (by decide +kernel) rfl
theorem lk_Z_134 : lk_M "DataflowLabLaw" 134 mi_D_setBranch := Or.inl (tb_m 1692 (by decide +kernel) rfl)
theorem lm_Z_134 : Cond.methodLink "DataflowLabLaw" 134 (mi_y mi_D_setBranch) ∈ tb_G := tb_m 1692 (by decide +kernel) rfl
theorem tk_Z_setBranch_1 : ∀ z ∈ (tableOf (mi_hh mi_Z_setBranch)).take 1, z.catchType ≠ 0 ∧ ∃ nm : String, Cond.classLink (mi_own mi_Z_setBranch) z.catchType nm ∈ tb_G ∧ ("java/lang/IllegalArgumentException", nm) ∈ gn_X := by
  rw [show (tableOf (mi_hh mi_Z_setBranch)).take 1 = [⟨0, 14, 17, 23⟩] from rfl]
  exact List.forall_mem_cons.mpr ⟨⟨by decide, "java/lang/IndexOutOfBoundsException", tb_m 1254 (by decide +kernel) rfl, List.mem_of_getElem? (i := 7) (by decide +kernel)⟩, fun _ h => nomatch h⟩
theorem lk_Z_137 : lk_M "DataflowLabLaw" 137 mi_D_writeBlock := Or.inl (tb_m 1700 (by decide +kernel) rfl)
theorem lm_Z_137 : Cond.methodLink "DataflowLabLaw" 137 (mi_y mi_D_writeBlock) ∈ tb_G := tb_m 1700 (by decide +kernel) rfl
theorem lk_Z_140 : lk_M "DataflowLabLaw" 140 mi_D_undo := Or.inl (tb_m 1766 (by decide +kernel) rfl)
theorem lm_Z_140 : Cond.methodLink "DataflowLabLaw" 140 (mi_y mi_D_undo) ∈ tb_G := tb_m 1766 (by decide +kernel) rfl
theorem lk_Z_144 : lk_M "DataflowLabLaw" 144 mi_D_saveSnapshot := Or.inl (tb_m 1778 (by decide +kernel) rfl)
theorem lm_Z_144 : Cond.methodLink "DataflowLabLaw" 144 (mi_y mi_D_saveSnapshot) ∈ tb_G := tb_m 1778 (by decide +kernel) rfl
theorem lk_Z_148 : lk_M "DataflowLabLaw" 148 mi_D_restoreSnapshot := Or.inl (tb_m 1786 (by decide +kernel) rfl)
theorem lm_Z_148 : Cond.methodLink "DataflowLabLaw" 148 (mi_y mi_D_restoreSnapshot) ∈ tb_G := tb_m 1786 (by decide +kernel) rfl
theorem tk_Z_restoreSnapshot_1 : ∀ z ∈ (tableOf (mi_hh mi_Z_restoreSnapshot)).take 1, z.catchType ≠ 0 ∧ ∃ nm : String, Cond.classLink (mi_own mi_Z_restoreSnapshot) z.catchType nm ∈ tb_G ∧ ("java/lang/IllegalStateException", nm) ∈ gn_X := by
  rw [show (tableOf (mi_hh mi_Z_restoreSnapshot)).take 1 = [⟨0, 5, 8, 18⟩] from rfl]
  exact List.forall_mem_cons.mpr ⟨⟨by decide, "java/lang/IllegalArgumentException", tb_m 1226 (by decide +kernel) rfl, List.mem_of_getElem? (i := 3) (by decide +kernel)⟩, fun _ h => nomatch h⟩
