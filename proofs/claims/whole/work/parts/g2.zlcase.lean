/-! ===== the law, case by case, on the machine ===== -/
set_option maxRecDepth 100000 in
set_option maxHeartbeats 4000000 in
theorem li_c0 {G : gl_T} {M0 : mm_T} {n : Nat} {xs : Nat → Int32} (hs : sc_H G n xs) (p1 p2 p3 : Nat) (i : Int32) (jj : mm_T → Option (Int32 × mm_T)) (hj : ∀ N, im_I mi_Z_law 26 601 G M0 sw_i (jj N) 3255 [some (.ref (st_B + 9000)), some (.ref p1), some (.ref p2), some (.ref p3), some (.int i), none, none, none, none] [] N) (N : mm_T) : im_I mi_Z_law 26 601 G M0 sw_i (lw_c0 n xs p1 p2 p3 i jj N) 292 [some (.ref (st_B + 9000)), some (.ref p1), some (.ref p2), some (.ref p3), some (.int i), none, none, none, none] [] N := by
  unfold lw_c0
  refine im_aload_n 25 292 (tz_0 25 rfl) rfl ?_
  refine im_aload_n 26 293 (tz_0 26 rfl) rfl ?_
  refine im_iload 27 294 (tz_0 27 rfl) rfl ?_
  refine im_iconst 28 296 (tz_0 28 rfl) rfl ?_
  refine im_iadd 29 297 (tz_0 29 rfl) ?_
  refine im_sld 30 298 hs (tz_0 30 rfl) (fun x1 => ?_)
  refine im_aload_n 31 299 (tz_0 31 rfl) rfl ?_
  refine im_cWi (S := []) (fun _ _ hv => cpW (fr' := 7) (lo' := 112) (i := 32) (As := [.ref p1, .int x1, .ref p3]) (S := []) (tz_0 32 rfl) lm_Z_155 mw_Z_appendText mv_Z_appendText rfl rfl rfl rfl (sp_Z_appendText G hv)) (fun x2 M1 => ?_)
  refine im_istore 33 303 [some (.ref (st_B + 9000)), some (.ref p1), some (.ref p2), some (.ref p3), some (.int i), some (.int x2), none, none, none] rfl rfl rfl ?_
  refine im_aload_n 34 305 (tz_0 34 rfl) rfl ?_
  refine im_aload_n 35 306 (tz_0 35 rfl) rfl ?_
  refine im_iload 36 307 (tz_0 36 rfl) rfl ?_
  refine im_iconst 37 309 (tz_0 37 rfl) rfl ?_
  refine im_iadd 38 310 (tz_0 38 rfl) ?_
  refine im_sld 39 311 hs (tz_0 39 rfl) (fun x3 => ?_)
  refine im_cWi (S := []) (fun _ _ hv => cpV (fr' := 1) (lo' := 20) (i := 40) (As := [.int x3]) (S := []) (a := p2) (c := 11) (tz_1 0 rfl) lk_Z_160 mw_M_appendText mv_M_appendText rfl ⟨by decide, rfl⟩ rfl rfl rfl (gd_some hv).1 (sp_M_appendText G hv)) (fun x4 M2 => ?_)
  refine im_istore 41 315 [some (.ref (st_B + 9000)), some (.ref p1), some (.ref p2), some (.ref p3), some (.int i), some (.int x2), some (.int x4), none, none] rfl rfl rfl ?_
  refine im_aload_n 42 317 (tz_1 2 rfl) rfl ?_
  refine im_ci (S := []) (fun _ hv => cpV (fr' := 1) (lo' := 20) (i := 43) (As := []) (S := []) (a := p2) (c := 11) (tz_1 3 rfl) lk_Z_161 mw_M_thrown mv_M_thrown rfl ⟨by decide, rfl⟩ rfl rfl rfl (gd_some hv).1 (sp_M_thrown G hv)) (fun x5 => ?_)
  refine im_iload 44 321 (tz_1 4 rfl) rfl ?_
  refine im_ic_eq 45 323 328 (tz_1 5 rfl) (by decide) ?_ ?_
  · refine im_iload 48 328 (tz_1 8 rfl) rfl ?_
    refine im_jp (fun j345 => im_I mi_Z_law 26 601 G M0 sw_i (j345) 345 [some (.ref (st_B + 9000)), some (.ref p1), some (.ref p2), some (.ref p3), some (.int i), none, none, none, none] [] M2) ?_ (fun j345 hj345 => ?_)
    · show im_I mi_Z_law 26 601 G M0 sw_i (_) 345 [some (.ref (st_B + 9000)), some (.ref p1), some (.ref p2), some (.ref p3), some (.int i), none, none, none, none] [] M2
      refine im_goto 59 345 3255 (tz_1 19 rfl) (by decide) ?_
      exact im_less _ (by simp [lv_le]) (hj M2)
    refine im_if_ne 49 330 345 (tz_1 9 rfl) (by decide) ?_ ?_
    · exact im_less _ (by simp [lv_le]) (hj345)
    · refine im_aload_n 50 333 (tz_1 10 rfl) rfl ?_
      refine im_iconst 51 334 (tz_1 11 rfl) rfl ?_
      refine im_laload 52 335 (tz_1 12 rfl) (fun x6 => ?_)
      refine im_iload 53 336 (tz_1 13 rfl) rfl ?_
      refine im_i2l 54 338 (tz_1 14 rfl) ?_
      refine im_lcmp 55 339 (tz_1 15 rfl) ?_
      refine im_if_eq 56 340 345 (tz_1 16 rfl) (by decide) ?_ ?_
      · exact im_less _ (by simp [lv_le]) (hj345)
      · refine im_iconst 57 343 (tz_1 17 rfl) rfl ?_
        exact im_end rfl (wp_zreturn 58 344 (ty := .boolean) rfl zn_0 (tz_1 18 rfl))
  · refine im_iconst 46 326 (tz_1 6 rfl) rfl ?_
    exact im_end rfl (wp_zreturn 47 327 (ty := .boolean) rfl zn_0 (tz_1 7 rfl))

set_option maxRecDepth 100000 in
set_option maxHeartbeats 4000000 in
theorem li_c1 {G : gl_T} {M0 : mm_T} {n : Nat} {xs : Nat → Int32} (hs : sc_H G n xs) (p1 p2 p3 : Nat) (i : Int32) (jj : mm_T → Option (Int32 × mm_T)) (hj : ∀ N, im_I mi_Z_law 26 601 G M0 sw_i (jj N) 3255 [some (.ref (st_B + 9000)), some (.ref p1), some (.ref p2), some (.ref p3), some (.int i), none, none, none, none] [] N) (N : mm_T) : im_I mi_Z_law 26 601 G M0 sw_i (lw_c1 n xs p1 p2 p3 i jj N) 348 [some (.ref (st_B + 9000)), some (.ref p1), some (.ref p2), some (.ref p3), some (.int i), none, none, none, none] [] N := by
  unfold lw_c1
  refine im_aload_n 60 348 (tz_1 20 rfl) rfl ?_
  refine im_aload_n 61 349 (tz_1 21 rfl) rfl ?_
  refine im_iload 62 350 (tz_1 22 rfl) rfl ?_
  refine im_iconst 63 352 (tz_1 23 rfl) rfl ?_
  refine im_iadd 64 353 (tz_1 24 rfl) ?_
  refine im_sld 65 354 hs (tz_1 25 rfl) (fun x1 => ?_)
  refine im_aload_n 66 355 (tz_1 26 rfl) rfl ?_
  refine im_cWi (S := []) (fun _ _ hv => cpW (fr' := 7) (lo' := 111) (i := 67) (As := [.ref p1, .int x1, .ref p3]) (S := []) (tz_1 27 rfl) lm_Z_164 mw_Z_truncateText mv_Z_truncateText rfl rfl rfl rfl (sp_Z_truncateText G hv)) (fun x2 M1 => ?_)
  refine im_istore 68 359 [some (.ref (st_B + 9000)), some (.ref p1), some (.ref p2), some (.ref p3), some (.int i), some (.int x2), none, none, none] rfl rfl rfl ?_
  refine im_aload_n 69 361 (tz_1 29 rfl) rfl ?_
  refine im_aload_n 70 362 (tz_1 30 rfl) rfl ?_
  refine im_iload 71 363 (tz_1 31 rfl) rfl ?_
  refine im_iconst 72 365 (tz_1 32 rfl) rfl ?_
  refine im_iadd 73 366 (tz_1 33 rfl) ?_
  refine im_sld 74 367 hs (tz_1 34 rfl) (fun x3 => ?_)
  refine im_cWi (S := []) (fun _ _ hv => cpV (fr' := 1) (lo' := 20) (i := 75) (As := [.int x3]) (S := []) (a := p2) (c := 11) (tz_1 35 rfl) lk_Z_166 mw_M_truncateText mv_M_truncateText rfl ⟨by decide, rfl⟩ rfl rfl rfl (gd_some hv).1 (sp_M_truncateText G hv)) (fun x4 M2 => ?_)
  refine im_istore 76 371 [some (.ref (st_B + 9000)), some (.ref p1), some (.ref p2), some (.ref p3), some (.int i), some (.int x2), some (.int x4), none, none] rfl rfl rfl ?_
  refine im_aload_n 77 373 (tz_1 37 rfl) rfl ?_
  refine im_ci (S := []) (fun _ hv => cpV (fr' := 1) (lo' := 20) (i := 78) (As := []) (S := []) (a := p2) (c := 11) (tz_1 38 rfl) lk_Z_161 mw_M_thrown mv_M_thrown rfl ⟨by decide, rfl⟩ rfl rfl rfl (gd_some hv).1 (sp_M_thrown G hv)) (fun x5 => ?_)
  refine im_iload 79 377 (tz_1 39 rfl) rfl ?_
  refine im_ic_eq 80 379 384 (tz_2 0 rfl) (by decide) ?_ ?_
  · refine im_iload 83 384 (tz_2 3 rfl) rfl ?_
    refine im_jp (fun j401 => im_I mi_Z_law 26 601 G M0 sw_i (j401) 401 [some (.ref (st_B + 9000)), some (.ref p1), some (.ref p2), some (.ref p3), some (.int i), none, none, none, none] [] M2) ?_ (fun j401 hj401 => ?_)
    · show im_I mi_Z_law 26 601 G M0 sw_i (_) 401 [some (.ref (st_B + 9000)), some (.ref p1), some (.ref p2), some (.ref p3), some (.int i), none, none, none, none] [] M2
      refine im_goto 94 401 3255 (tz_2 14 rfl) (by decide) ?_
      exact im_less _ (by simp [lv_le]) (hj M2)
    refine im_if_ne 84 386 401 (tz_2 4 rfl) (by decide) ?_ ?_
    · exact im_less _ (by simp [lv_le]) (hj401)
    · refine im_aload_n 85 389 (tz_2 5 rfl) rfl ?_
      refine im_iconst 86 390 (tz_2 6 rfl) rfl ?_
      refine im_laload 87 391 (tz_2 7 rfl) (fun x6 => ?_)
      refine im_iload 88 392 (tz_2 8 rfl) rfl ?_
      refine im_i2l 89 394 (tz_2 9 rfl) ?_
      refine im_lcmp 90 395 (tz_2 10 rfl) ?_
      refine im_if_eq 91 396 401 (tz_2 11 rfl) (by decide) ?_ ?_
      · exact im_less _ (by simp [lv_le]) (hj401)
      · refine im_iconst 92 399 (tz_2 12 rfl) rfl ?_
        exact im_end rfl (wp_zreturn 93 400 (ty := .boolean) rfl zn_0 (tz_2 13 rfl))
  · refine im_iconst 81 382 (tz_2 1 rfl) rfl ?_
    exact im_end rfl (wp_zreturn 82 383 (ty := .boolean) rfl zn_0 (tz_2 2 rfl))

set_option maxRecDepth 100000 in
set_option maxHeartbeats 4000000 in
theorem li_c2 {G : gl_T} {M0 : mm_T} {n : Nat} {xs : Nat → Int32} (hs : sc_H G n xs) (p1 p2 p3 : Nat) (i : Int32) (jj : mm_T → Option (Int32 × mm_T)) (hj : ∀ N, im_I mi_Z_law 26 601 G M0 sw_i (jj N) 3255 [some (.ref (st_B + 9000)), some (.ref p1), some (.ref p2), some (.ref p3), some (.int i), none, none, none, none] [] N) (N : mm_T) : im_I mi_Z_law 26 601 G M0 sw_i (lw_c2 n xs p1 p2 p3 i jj N) 404 [some (.ref (st_B + 9000)), some (.ref p1), some (.ref p2), some (.ref p3), some (.int i), none, none, none, none] [] N := by
  unfold lw_c2
  refine im_aload_n 95 404 (tz_2 15 rfl) rfl ?_
  refine im_cWi (S := []) (fun _ _ hv => cpV (fr' := 9) (lo' := 264) (i := 96) (As := []) (S := []) (a := p1) (c := 10) (tz_2 16 rfl) lk_Z_167 mw_D_loadProgram mv_D_loadProgram rfl ⟨by decide, rfl⟩ rfl rfl rfl (gd_some hv).1 (sp_D_loadProgram G hv)) (fun x1 M1 => ?_)
  refine im_aload_n 97 408 (tz_2 17 rfl) rfl ?_
  refine im_cWi (S := [.int x1]) (fun _ _ hv => cpV (fr' := 9) (lo' := 260) (i := 98) (As := []) (S := [.int x1]) (a := p2) (c := 11) (tz_2 18 rfl) lk_Z_170 mw_M_loadProgram mv_M_loadProgram rfl ⟨by decide, rfl⟩ rfl rfl rfl (gd_some hv).1 (sp_M_loadProgram G hv)) (fun x2 M2 => ?_)
  refine im_ic_eq 99 412 3255 (tz_2 19 rfl) (by decide) ?_ ?_
  · exact im_less _ (by simp [lv_le]) (hj M2)
  · refine im_iconst 100 415 (tz_2 20 rfl) rfl ?_
    exact im_end rfl (wp_zreturn 101 416 (ty := .boolean) rfl zn_0 (tz_2 21 rfl))

set_option maxRecDepth 100000 in
set_option maxHeartbeats 4000000 in
theorem li_c3 {G : gl_T} {M0 : mm_T} {n : Nat} {xs : Nat → Int32} (hs : sc_H G n xs) (p1 p2 p3 : Nat) (i : Int32) (jj : mm_T → Option (Int32 × mm_T)) (hj : ∀ N, im_I mi_Z_law 26 601 G M0 sw_i (jj N) 3255 [some (.ref (st_B + 9000)), some (.ref p1), some (.ref p2), some (.ref p3), some (.int i), none, none, none, none] [] N) (N : mm_T) : im_I mi_Z_law 26 601 G M0 sw_i (lw_c3 n xs p1 p2 p3 i jj N) 417 [some (.ref (st_B + 9000)), some (.ref p1), some (.ref p2), some (.ref p3), some (.int i), none, none, none, none] [] N := by
  unfold lw_c3
  refine im_aload_n 102 417 (tz_2 22 rfl) rfl ?_
  refine im_ci (S := []) (fun _ hv => cpV (fr' := 1) (lo' := 20) (i := 103) (As := []) (S := []) (a := p1) (c := 10) (tz_2 23 rfl) lk_Z_171 mw_D_errorCode mv_D_errorCode rfl ⟨by decide, rfl⟩ rfl rfl rfl (gd_some hv).1 (sp_D_errorCode G hv)) (fun x1 => ?_)
  refine im_aload_n 104 421 (tz_2 24 rfl) rfl ?_
  refine im_cWi (S := [.int x1]) (fun _ _ hv => cpV (fr' := 1) (lo' := 20) (i := 105) (As := []) (S := [.int x1]) (a := p2) (c := 11) (tz_2 25 rfl) lk_Z_174 mw_M_errorCode mv_M_errorCode rfl ⟨by decide, rfl⟩ rfl rfl rfl (gd_some hv).1 (sp_M_errorCode G hv)) (fun x2 M1 => ?_)
  refine im_ic_eq 106 425 3255 (tz_2 26 rfl) (by decide) ?_ ?_
  · exact im_less _ (by simp [lv_le]) (hj M1)
  · refine im_iconst 107 428 (tz_2 27 rfl) rfl ?_
    exact im_end rfl (wp_zreturn 108 429 (ty := .boolean) rfl zn_0 (tz_2 28 rfl))

set_option maxRecDepth 100000 in
set_option maxHeartbeats 4000000 in
theorem li_c4 {G : gl_T} {M0 : mm_T} {n : Nat} {xs : Nat → Int32} (hs : sc_H G n xs) (p1 p2 p3 : Nat) (i : Int32) (jj : mm_T → Option (Int32 × mm_T)) (hj : ∀ N, im_I mi_Z_law 26 601 G M0 sw_i (jj N) 3255 [some (.ref (st_B + 9000)), some (.ref p1), some (.ref p2), some (.ref p3), some (.int i), none, none, none, none] [] N) (N : mm_T) : im_I mi_Z_law 26 601 G M0 sw_i (lw_c4 n xs p1 p2 p3 i jj N) 430 [some (.ref (st_B + 9000)), some (.ref p1), some (.ref p2), some (.ref p3), some (.int i), none, none, none, none] [] N := by
  unfold lw_c4
  refine im_aload_n 109 430 (tz_2 29 rfl) rfl ?_
  refine im_ci (S := []) (fun _ hv => cpV (fr' := 1) (lo' := 20) (i := 110) (As := []) (S := []) (a := p1) (c := 10) (tz_2 30 rfl) lk_Z_175 mw_D_errorPosition mv_D_errorPosition rfl ⟨by decide, rfl⟩ rfl rfl rfl (gd_some hv).1 (sp_D_errorPosition G hv)) (fun x1 => ?_)
  refine im_aload_n 111 434 (tz_2 31 rfl) rfl ?_
  refine im_cWi (S := [.int x1]) (fun _ _ hv => cpV (fr' := 1) (lo' := 20) (i := 112) (As := []) (S := [.int x1]) (a := p2) (c := 11) (tz_2 32 rfl) lk_Z_178 mw_M_errorPosition mv_M_errorPosition rfl ⟨by decide, rfl⟩ rfl rfl rfl (gd_some hv).1 (sp_M_errorPosition G hv)) (fun x2 M1 => ?_)
  refine im_ic_eq 113 438 3255 (tz_2 33 rfl) (by decide) ?_ ?_
  · exact im_less _ (by simp [lv_le]) (hj M1)
  · refine im_iconst 114 441 (tz_2 34 rfl) rfl ?_
    exact im_end rfl (wp_zreturn 115 442 (ty := .boolean) rfl zn_0 (tz_2 35 rfl))

set_option maxRecDepth 100000 in
set_option maxHeartbeats 4000000 in
theorem li_c5 {G : gl_T} {M0 : mm_T} {n : Nat} {xs : Nat → Int32} (hs : sc_H G n xs) (p1 p2 p3 : Nat) (i : Int32) (jj : mm_T → Option (Int32 × mm_T)) (hj : ∀ N, im_I mi_Z_law 26 601 G M0 sw_i (jj N) 3255 [some (.ref (st_B + 9000)), some (.ref p1), some (.ref p2), some (.ref p3), some (.int i), none, none, none, none] [] N) (N : mm_T) : im_I mi_Z_law 26 601 G M0 sw_i (lw_c5 n xs p1 p2 p3 i jj N) 443 [some (.ref (st_B + 9000)), some (.ref p1), some (.ref p2), some (.ref p3), some (.int i), none, none, none, none] [] N := by
  unfold lw_c5
  refine im_aload_n 116 443 (tz_2 36 rfl) rfl ?_
  refine im_ci (S := []) (fun _ hv => cpV (fr' := 1) (lo' := 20) (i := 117) (As := []) (S := []) (a := p1) (c := 10) (tz_2 37 rfl) lk_Z_179 mw_D_blockCount mv_D_blockCount rfl ⟨by decide, rfl⟩ rfl rfl rfl (gd_some hv).1 (sp_D_blockCount G hv)) (fun x1 => ?_)
  refine im_aload_n 118 447 (tz_2 38 rfl) rfl ?_
  refine im_cWi (S := [.int x1]) (fun _ _ hv => cpV (fr' := 2) (lo' := 41) (i := 119) (As := []) (S := [.int x1]) (a := p2) (c := 11) (tz_2 39 rfl) lk_Z_182 mw_M_blockCount mv_M_blockCount rfl ⟨by decide, rfl⟩ rfl rfl rfl (gd_some hv).1 (sp_M_blockCount G hv)) (fun x2 M1 => ?_)
  refine im_ic_eq 120 451 3255 (tz_3 0 rfl) (by decide) ?_ ?_
  · exact im_less _ (by simp [lv_le]) (hj M1)
  · refine im_iconst 121 454 (tz_3 1 rfl) rfl ?_
    exact im_end rfl (wp_zreturn 122 455 (ty := .boolean) rfl zn_0 (tz_3 2 rfl))

set_option maxRecDepth 100000 in
set_option maxHeartbeats 4000000 in
theorem li_c6 {G : gl_T} {M0 : mm_T} {n : Nat} {xs : Nat → Int32} (hs : sc_H G n xs) (p1 p2 p3 : Nat) (i : Int32) (jj : mm_T → Option (Int32 × mm_T)) (hj : ∀ N, im_I mi_Z_law 26 601 G M0 sw_i (jj N) 3255 [some (.ref (st_B + 9000)), some (.ref p1), some (.ref p2), some (.ref p3), some (.int i), none, none, none, none] [] N) (N : mm_T) : im_I mi_Z_law 26 601 G M0 sw_i (lw_c6 n xs p1 p2 p3 i jj N) 456 [some (.ref (st_B + 9000)), some (.ref p1), some (.ref p2), some (.ref p3), some (.int i), none, none, none, none] [] N := by
  unfold lw_c6
  refine im_aload_n 123 456 (tz_3 3 rfl) rfl ?_
  refine im_ci (S := []) (fun _ hv => cpV (fr' := 1) (lo' := 20) (i := 124) (As := []) (S := []) (a := p1) (c := 10) (tz_3 4 rfl) lk_Z_183 mw_D_instructionCount mv_D_instructionCount rfl ⟨by decide, rfl⟩ rfl rfl rfl (gd_some hv).1 (sp_D_instructionCount G hv)) (fun x1 => ?_)
  refine im_aload_n 125 460 (tz_3 5 rfl) rfl ?_
  refine im_cWi (S := [.int x1]) (fun _ _ hv => cpV (fr' := 2) (lo' := 41) (i := 126) (As := []) (S := [.int x1]) (a := p2) (c := 11) (tz_3 6 rfl) lk_Z_186 mw_M_instructionCount mv_M_instructionCount rfl ⟨by decide, rfl⟩ rfl rfl rfl (gd_some hv).1 (sp_M_instructionCount G hv)) (fun x2 M1 => ?_)
  refine im_ic_eq 127 464 3255 (tz_3 7 rfl) (by decide) ?_ ?_
  · exact im_less _ (by simp [lv_le]) (hj M1)
  · refine im_iconst 128 467 (tz_3 8 rfl) rfl ?_
    exact im_end rfl (wp_zreturn 129 468 (ty := .boolean) rfl zn_0 (tz_3 9 rfl))

set_option maxRecDepth 100000 in
set_option maxHeartbeats 4000000 in
theorem li_c7 {G : gl_T} {M0 : mm_T} {n : Nat} {xs : Nat → Int32} (hs : sc_H G n xs) (p1 p2 p3 : Nat) (i : Int32) (jj : mm_T → Option (Int32 × mm_T)) (hj : ∀ N, im_I mi_Z_law 26 601 G M0 sw_i (jj N) 3255 [some (.ref (st_B + 9000)), some (.ref p1), some (.ref p2), some (.ref p3), some (.int i), none, none, none, none] [] N) (N : mm_T) : im_I mi_Z_law 26 601 G M0 sw_i (lw_c7 n xs p1 p2 p3 i jj N) 469 [some (.ref (st_B + 9000)), some (.ref p1), some (.ref p2), some (.ref p3), some (.int i), none, none, none, none] [] N := by
  unfold lw_c7
  refine im_aload_n 130 469 (tz_3 10 rfl) rfl ?_
  refine im_aload_n 131 470 (tz_3 11 rfl) rfl ?_
  refine im_iload 132 471 (tz_3 12 rfl) rfl ?_
  refine im_iconst 133 473 (tz_3 13 rfl) rfl ?_
  refine im_iadd 134 474 (tz_3 14 rfl) ?_
  refine im_sld 135 475 hs (tz_3 15 rfl) (fun x1 => ?_)
  refine im_aload_n 136 476 (tz_3 16 rfl) rfl ?_
  refine im_cWi (S := []) (fun _ _ hv => cpW (fr' := 8) (lo' := 132) (i := 137) (As := [.ref p1, .int x1, .ref p3]) (S := []) (tz_3 17 rfl) lm_Z_187 mw_Z_instructionsIn mv_Z_instructionsIn rfl rfl rfl rfl (sp_Z_instructionsIn G hv)) (fun x2 M1 => ?_)
  refine im_istore 138 480 [some (.ref (st_B + 9000)), some (.ref p1), some (.ref p2), some (.ref p3), some (.int i), some (.int x2), none, none, none] rfl rfl rfl ?_
  refine im_aload_n 139 482 (tz_3 19 rfl) rfl ?_
  refine im_aload_n 140 483 (tz_3 20 rfl) rfl ?_
  refine im_iload 141 484 (tz_3 21 rfl) rfl ?_
  refine im_iconst 142 486 (tz_3 22 rfl) rfl ?_
  refine im_iadd 143 487 (tz_3 23 rfl) ?_
  refine im_sld 144 488 hs (tz_3 24 rfl) (fun x3 => ?_)
  refine im_cWi (S := []) (fun _ _ hv => cpV (fr' := 3) (lo' := 63) (i := 145) (As := [.int x3]) (S := []) (a := p2) (c := 11) (tz_3 25 rfl) lk_Z_189 mw_M_instructionsIn mv_M_instructionsIn rfl ⟨by decide, rfl⟩ rfl rfl rfl (gd_some hv).1 (sp_M_instructionsIn G hv)) (fun x4 M2 => ?_)
  refine im_istore 146 492 [some (.ref (st_B + 9000)), some (.ref p1), some (.ref p2), some (.ref p3), some (.int i), some (.int x2), some (.int x4), none, none] rfl rfl rfl ?_
  refine im_aload_n 147 494 (tz_3 27 rfl) rfl ?_
  refine im_ci (S := []) (fun _ hv => cpV (fr' := 1) (lo' := 20) (i := 148) (As := []) (S := []) (a := p2) (c := 11) (tz_3 28 rfl) lk_Z_161 mw_M_thrown mv_M_thrown rfl ⟨by decide, rfl⟩ rfl rfl rfl (gd_some hv).1 (sp_M_thrown G hv)) (fun x5 => ?_)
  refine im_iload 149 498 (tz_3 29 rfl) rfl ?_
  refine im_ic_eq 150 500 505 (tz_3 30 rfl) (by decide) ?_ ?_
  · refine im_iload 153 505 (tz_3 33 rfl) rfl ?_
    refine im_jp (fun j522 => im_I mi_Z_law 26 601 G M0 sw_i (j522) 522 [some (.ref (st_B + 9000)), some (.ref p1), some (.ref p2), some (.ref p3), some (.int i), none, none, none, none] [] M2) ?_ (fun j522 hj522 => ?_)
    · show im_I mi_Z_law 26 601 G M0 sw_i (_) 522 [some (.ref (st_B + 9000)), some (.ref p1), some (.ref p2), some (.ref p3), some (.int i), none, none, none, none] [] M2
      refine im_goto 164 522 3255 (tz_4 4 rfl) (by decide) ?_
      exact im_less _ (by simp [lv_le]) (hj M2)
    refine im_if_ne 154 507 522 (tz_3 34 rfl) (by decide) ?_ ?_
    · exact im_less _ (by simp [lv_le]) (hj522)
    · refine im_aload_n 155 510 (tz_3 35 rfl) rfl ?_
      refine im_iconst 156 511 (tz_3 36 rfl) rfl ?_
      refine im_laload 157 512 (tz_3 37 rfl) (fun x6 => ?_)
      refine im_iload 158 513 (tz_3 38 rfl) rfl ?_
      refine im_i2l 159 515 (tz_3 39 rfl) ?_
      refine im_lcmp 160 516 (tz_4 0 rfl) ?_
      refine im_if_eq 161 517 522 (tz_4 1 rfl) (by decide) ?_ ?_
      · exact im_less _ (by simp [lv_le]) (hj522)
      · refine im_iconst 162 520 (tz_4 2 rfl) rfl ?_
        exact im_end rfl (wp_zreturn 163 521 (ty := .boolean) rfl zn_0 (tz_4 3 rfl))
  · refine im_iconst 151 503 (tz_3 31 rfl) rfl ?_
    exact im_end rfl (wp_zreturn 152 504 (ty := .boolean) rfl zn_0 (tz_3 32 rfl))

set_option maxRecDepth 100000 in
set_option maxHeartbeats 4000000 in
theorem li_c8 {G : gl_T} {M0 : mm_T} {n : Nat} {xs : Nat → Int32} (hs : sc_H G n xs) (p1 p2 p3 : Nat) (i : Int32) (jj : mm_T → Option (Int32 × mm_T)) (hj : ∀ N, im_I mi_Z_law 26 601 G M0 sw_i (jj N) 3255 [some (.ref (st_B + 9000)), some (.ref p1), some (.ref p2), some (.ref p3), some (.int i), none, none, none, none] [] N) (N : mm_T) : im_I mi_Z_law 26 601 G M0 sw_i (lw_c8 n xs p1 p2 p3 i jj N) 525 [some (.ref (st_B + 9000)), some (.ref p1), some (.ref p2), some (.ref p3), some (.int i), none, none, none, none] [] N := by
  unfold lw_c8
  refine im_aload_n 165 525 (tz_4 5 rfl) rfl ?_
  refine im_aload_n 166 526 (tz_4 6 rfl) rfl ?_
  refine im_iload 167 527 (tz_4 7 rfl) rfl ?_
  refine im_iconst 168 529 (tz_4 8 rfl) rfl ?_
  refine im_iadd 169 530 (tz_4 9 rfl) ?_
  refine im_sld 170 531 hs (tz_4 10 rfl) (fun x1 => ?_)
  refine im_aload_n 171 532 (tz_4 11 rfl) rfl ?_
  refine im_cWi (S := []) (fun _ _ hv => cpW (fr' := 8) (lo' := 132) (i := 172) (As := [.ref p1, .int x1, .ref p3]) (S := []) (tz_4 12 rfl) lm_Z_190 mw_Z_blockOf mv_Z_blockOf rfl rfl rfl rfl (sp_Z_blockOf G hv)) (fun x2 M1 => ?_)
  refine im_istore 173 536 [some (.ref (st_B + 9000)), some (.ref p1), some (.ref p2), some (.ref p3), some (.int i), some (.int x2), none, none, none] rfl rfl rfl ?_
  refine im_aload_n 174 538 (tz_4 14 rfl) rfl ?_
  refine im_aload_n 175 539 (tz_4 15 rfl) rfl ?_
  refine im_iload 176 540 (tz_4 16 rfl) rfl ?_
  refine im_iconst 177 542 (tz_4 17 rfl) rfl ?_
  refine im_iadd 178 543 (tz_4 18 rfl) ?_
  refine im_sld 179 544 hs (tz_4 19 rfl) (fun x3 => ?_)
  refine im_cWi (S := []) (fun _ _ hv => cpV (fr' := 6) (lo' := 129) (i := 180) (As := [.int x3]) (S := []) (a := p2) (c := 11) (tz_4 20 rfl) lk_Z_192 mw_M_blockOf mv_M_blockOf rfl ⟨by decide, rfl⟩ rfl rfl rfl (gd_some hv).1 (sp_M_blockOf G hv)) (fun x4 M2 => ?_)
  refine im_istore 181 548 [some (.ref (st_B + 9000)), some (.ref p1), some (.ref p2), some (.ref p3), some (.int i), some (.int x2), some (.int x4), none, none] rfl rfl rfl ?_
  refine im_aload_n 182 550 (tz_4 22 rfl) rfl ?_
  refine im_ci (S := []) (fun _ hv => cpV (fr' := 1) (lo' := 20) (i := 183) (As := []) (S := []) (a := p2) (c := 11) (tz_4 23 rfl) lk_Z_161 mw_M_thrown mv_M_thrown rfl ⟨by decide, rfl⟩ rfl rfl rfl (gd_some hv).1 (sp_M_thrown G hv)) (fun x5 => ?_)
  refine im_iload 184 554 (tz_4 24 rfl) rfl ?_
  refine im_ic_eq 185 556 561 (tz_4 25 rfl) (by decide) ?_ ?_
  · refine im_iload 188 561 (tz_4 28 rfl) rfl ?_
    refine im_jp (fun j578 => im_I mi_Z_law 26 601 G M0 sw_i (j578) 578 [some (.ref (st_B + 9000)), some (.ref p1), some (.ref p2), some (.ref p3), some (.int i), none, none, none, none] [] M2) ?_ (fun j578 hj578 => ?_)
    · show im_I mi_Z_law 26 601 G M0 sw_i (_) 578 [some (.ref (st_B + 9000)), some (.ref p1), some (.ref p2), some (.ref p3), some (.int i), none, none, none, none] [] M2
      refine im_goto 199 578 3255 (tz_4 39 rfl) (by decide) ?_
      exact im_less _ (by simp [lv_le]) (hj M2)
    refine im_if_ne 189 563 578 (tz_4 29 rfl) (by decide) ?_ ?_
    · exact im_less _ (by simp [lv_le]) (hj578)
    · refine im_aload_n 190 566 (tz_4 30 rfl) rfl ?_
      refine im_iconst 191 567 (tz_4 31 rfl) rfl ?_
      refine im_laload 192 568 (tz_4 32 rfl) (fun x6 => ?_)
      refine im_iload 193 569 (tz_4 33 rfl) rfl ?_
      refine im_i2l 194 571 (tz_4 34 rfl) ?_
      refine im_lcmp 195 572 (tz_4 35 rfl) ?_
      refine im_if_eq 196 573 578 (tz_4 36 rfl) (by decide) ?_ ?_
      · exact im_less _ (by simp [lv_le]) (hj578)
      · refine im_iconst 197 576 (tz_4 37 rfl) rfl ?_
        exact im_end rfl (wp_zreturn 198 577 (ty := .boolean) rfl zn_0 (tz_4 38 rfl))
  · refine im_iconst 186 559 (tz_4 26 rfl) rfl ?_
    exact im_end rfl (wp_zreturn 187 560 (ty := .boolean) rfl zn_0 (tz_4 27 rfl))

set_option maxRecDepth 100000 in
set_option maxHeartbeats 4000000 in
theorem li_c9 {G : gl_T} {M0 : mm_T} {n : Nat} {xs : Nat → Int32} (hs : sc_H G n xs) (p1 p2 p3 : Nat) (i : Int32) (jj : mm_T → Option (Int32 × mm_T)) (hj : ∀ N, im_I mi_Z_law 26 601 G M0 sw_i (jj N) 3255 [some (.ref (st_B + 9000)), some (.ref p1), some (.ref p2), some (.ref p3), some (.int i), none, none, none, none] [] N) (N : mm_T) : im_I mi_Z_law 26 601 G M0 sw_i (lw_c9 n xs p1 p2 p3 i jj N) 581 [some (.ref (st_B + 9000)), some (.ref p1), some (.ref p2), some (.ref p3), some (.int i), none, none, none, none] [] N := by
  unfold lw_c9
  refine im_aload_n 200 581 (tz_5 0 rfl) rfl ?_
  refine im_aload_n 201 582 (tz_5 1 rfl) rfl ?_
  refine im_iload 202 583 (tz_5 2 rfl) rfl ?_
  refine im_iconst 203 585 (tz_5 3 rfl) rfl ?_
  refine im_iadd 204 586 (tz_5 4 rfl) ?_
  refine im_sld 205 587 hs (tz_5 5 rfl) (fun x1 => ?_)
  refine im_aload_n 206 588 (tz_5 6 rfl) rfl ?_
  refine im_cWi (S := []) (fun _ _ hv => cpW (fr' := 8) (lo' := 132) (i := 207) (As := [.ref p1, .int x1, .ref p3]) (S := []) (tz_5 7 rfl) lm_Z_193 mw_Z_kindOf mv_Z_kindOf rfl rfl rfl rfl (sp_Z_kindOf G hv)) (fun x2 M1 => ?_)
  refine im_istore 208 592 [some (.ref (st_B + 9000)), some (.ref p1), some (.ref p2), some (.ref p3), some (.int i), some (.int x2), none, none, none] rfl rfl rfl ?_
  refine im_aload_n 209 594 (tz_5 9 rfl) rfl ?_
  refine im_aload_n 210 595 (tz_5 10 rfl) rfl ?_
  refine im_iload 211 596 (tz_5 11 rfl) rfl ?_
  refine im_iconst 212 598 (tz_5 12 rfl) rfl ?_
  refine im_iadd 213 599 (tz_5 13 rfl) ?_
  refine im_sld 214 600 hs (tz_5 14 rfl) (fun x3 => ?_)
  refine im_cWi (S := []) (fun _ _ hv => cpV (fr' := 3) (lo' := 63) (i := 215) (As := [.int x3]) (S := []) (a := p2) (c := 11) (tz_5 15 rfl) lk_Z_195 mw_M_kindOf mv_M_kindOf rfl ⟨by decide, rfl⟩ rfl rfl rfl (gd_some hv).1 (sp_M_kindOf G hv)) (fun x4 M2 => ?_)
  refine im_istore 216 604 [some (.ref (st_B + 9000)), some (.ref p1), some (.ref p2), some (.ref p3), some (.int i), some (.int x2), some (.int x4), none, none] rfl rfl rfl ?_
  refine im_aload_n 217 606 (tz_5 17 rfl) rfl ?_
  refine im_ci (S := []) (fun _ hv => cpV (fr' := 1) (lo' := 20) (i := 218) (As := []) (S := []) (a := p2) (c := 11) (tz_5 18 rfl) lk_Z_161 mw_M_thrown mv_M_thrown rfl ⟨by decide, rfl⟩ rfl rfl rfl (gd_some hv).1 (sp_M_thrown G hv)) (fun x5 => ?_)
  refine im_iload 219 610 (tz_5 19 rfl) rfl ?_
  refine im_ic_eq 220 612 617 (tz_5 20 rfl) (by decide) ?_ ?_
  · refine im_iload 223 617 (tz_5 23 rfl) rfl ?_
    refine im_jp (fun j634 => im_I mi_Z_law 26 601 G M0 sw_i (j634) 634 [some (.ref (st_B + 9000)), some (.ref p1), some (.ref p2), some (.ref p3), some (.int i), none, none, none, none] [] M2) ?_ (fun j634 hj634 => ?_)
    · show im_I mi_Z_law 26 601 G M0 sw_i (_) 634 [some (.ref (st_B + 9000)), some (.ref p1), some (.ref p2), some (.ref p3), some (.int i), none, none, none, none] [] M2
      refine im_goto 234 634 3255 (tz_5 34 rfl) (by decide) ?_
      exact im_less _ (by simp [lv_le]) (hj M2)
    refine im_if_ne 224 619 634 (tz_5 24 rfl) (by decide) ?_ ?_
    · exact im_less _ (by simp [lv_le]) (hj634)
    · refine im_aload_n 225 622 (tz_5 25 rfl) rfl ?_
      refine im_iconst 226 623 (tz_5 26 rfl) rfl ?_
      refine im_laload 227 624 (tz_5 27 rfl) (fun x6 => ?_)
      refine im_iload 228 625 (tz_5 28 rfl) rfl ?_
      refine im_i2l 229 627 (tz_5 29 rfl) ?_
      refine im_lcmp 230 628 (tz_5 30 rfl) ?_
      refine im_if_eq 231 629 634 (tz_5 31 rfl) (by decide) ?_ ?_
      · exact im_less _ (by simp [lv_le]) (hj634)
      · refine im_iconst 232 632 (tz_5 32 rfl) rfl ?_
        exact im_end rfl (wp_zreturn 233 633 (ty := .boolean) rfl zn_0 (tz_5 33 rfl))
  · refine im_iconst 221 615 (tz_5 21 rfl) rfl ?_
    exact im_end rfl (wp_zreturn 222 616 (ty := .boolean) rfl zn_0 (tz_5 22 rfl))

set_option maxRecDepth 100000 in
set_option maxHeartbeats 4000000 in
theorem li_c10 {G : gl_T} {M0 : mm_T} {n : Nat} {xs : Nat → Int32} (hs : sc_H G n xs) (p1 p2 p3 : Nat) (i : Int32) (jj : mm_T → Option (Int32 × mm_T)) (hj : ∀ N, im_I mi_Z_law 26 601 G M0 sw_i (jj N) 3255 [some (.ref (st_B + 9000)), some (.ref p1), some (.ref p2), some (.ref p3), some (.int i), none, none, none, none] [] N) (N : mm_T) : im_I mi_Z_law 26 601 G M0 sw_i (lw_c10 n xs p1 p2 p3 i jj N) 637 [some (.ref (st_B + 9000)), some (.ref p1), some (.ref p2), some (.ref p3), some (.int i), none, none, none, none] [] N := by
  unfold lw_c10
  refine im_aload_n 235 637 (tz_5 35 rfl) rfl ?_
  refine im_aload_n 236 638 (tz_5 36 rfl) rfl ?_
  refine im_iload 237 639 (tz_5 37 rfl) rfl ?_
  refine im_iconst 238 641 (tz_5 38 rfl) rfl ?_
  refine im_iadd 239 642 (tz_5 39 rfl) ?_
  refine im_sld 240 643 hs (tz_6 0 rfl) (fun x1 => ?_)
  refine im_aload_n 241 644 (tz_6 1 rfl) rfl ?_
  refine im_iload 242 645 (tz_6 2 rfl) rfl ?_
  refine im_iconst 243 647 (tz_6 3 rfl) rfl ?_
  refine im_iadd 244 648 (tz_6 4 rfl) ?_
  refine im_sld 245 649 hs (tz_6 5 rfl) (fun x2 => ?_)
  refine im_aload_n 246 650 (tz_6 6 rfl) rfl ?_
  refine im_cWi (S := []) (fun _ _ hv => cpW (fr' := 8) (lo' := 133) (i := 247) (As := [.ref p1, .int x1, .int x2, .ref p3]) (S := []) (tz_6 7 rfl) lm_Z_196 mw_Z_successor mv_Z_successor rfl rfl rfl rfl (sp_Z_successor G hv)) (fun x3 M1 => ?_)
  refine im_istore 248 654 [some (.ref (st_B + 9000)), some (.ref p1), some (.ref p2), some (.ref p3), some (.int i), some (.int x3), none, none, none] rfl rfl rfl ?_
  refine im_aload_n 249 656 (tz_6 9 rfl) rfl ?_
  refine im_aload_n 250 657 (tz_6 10 rfl) rfl ?_
  refine im_iload 251 658 (tz_6 11 rfl) rfl ?_
  refine im_iconst 252 660 (tz_6 12 rfl) rfl ?_
  refine im_iadd 253 661 (tz_6 13 rfl) ?_
  refine im_sld 254 662 hs (tz_6 14 rfl) (fun x4 => ?_)
  refine im_aload_n 255 663 (tz_6 15 rfl) rfl ?_
  refine im_iload 256 664 (tz_6 16 rfl) rfl ?_
  refine im_iconst 257 666 (tz_6 17 rfl) rfl ?_
  refine im_iadd 258 667 (tz_6 18 rfl) ?_
  refine im_sld 259 668 hs (tz_6 19 rfl) (fun x5 => ?_)
  refine im_cWi (S := []) (fun _ _ hv => cpV (fr' := 4) (lo' := 85) (i := 260) (As := [.int x4, .int x5]) (S := []) (a := p2) (c := 11) (tz_6 20 rfl) lk_Z_199 mw_M_successor mv_M_successor rfl ⟨by decide, rfl⟩ rfl rfl rfl (gd_some hv).1 (sp_M_successor G hv)) (fun x6 M2 => ?_)
  refine im_istore 261 672 [some (.ref (st_B + 9000)), some (.ref p1), some (.ref p2), some (.ref p3), some (.int i), some (.int x3), some (.int x6), none, none] rfl rfl rfl ?_
  refine im_aload_n 262 674 (tz_6 22 rfl) rfl ?_
  refine im_ci (S := []) (fun _ hv => cpV (fr' := 1) (lo' := 20) (i := 263) (As := []) (S := []) (a := p2) (c := 11) (tz_6 23 rfl) lk_Z_161 mw_M_thrown mv_M_thrown rfl ⟨by decide, rfl⟩ rfl rfl rfl (gd_some hv).1 (sp_M_thrown G hv)) (fun x7 => ?_)
  refine im_iload 264 678 (tz_6 24 rfl) rfl ?_
  refine im_ic_eq 265 680 685 (tz_6 25 rfl) (by decide) ?_ ?_
  · refine im_iload 268 685 (tz_6 28 rfl) rfl ?_
    refine im_jp (fun j702 => im_I mi_Z_law 26 601 G M0 sw_i (j702) 702 [some (.ref (st_B + 9000)), some (.ref p1), some (.ref p2), some (.ref p3), some (.int i), none, none, none, none] [] M2) ?_ (fun j702 hj702 => ?_)
    · show im_I mi_Z_law 26 601 G M0 sw_i (_) 702 [some (.ref (st_B + 9000)), some (.ref p1), some (.ref p2), some (.ref p3), some (.int i), none, none, none, none] [] M2
      refine im_goto 279 702 3255 (tz_6 39 rfl) (by decide) ?_
      exact im_less _ (by simp [lv_le]) (hj M2)
    refine im_if_ne 269 687 702 (tz_6 29 rfl) (by decide) ?_ ?_
    · exact im_less _ (by simp [lv_le]) (hj702)
    · refine im_aload_n 270 690 (tz_6 30 rfl) rfl ?_
      refine im_iconst 271 691 (tz_6 31 rfl) rfl ?_
      refine im_laload 272 692 (tz_6 32 rfl) (fun x8 => ?_)
      refine im_iload 273 693 (tz_6 33 rfl) rfl ?_
      refine im_i2l 274 695 (tz_6 34 rfl) ?_
      refine im_lcmp 275 696 (tz_6 35 rfl) ?_
      refine im_if_eq 276 697 702 (tz_6 36 rfl) (by decide) ?_ ?_
      · exact im_less _ (by simp [lv_le]) (hj702)
      · refine im_iconst 277 700 (tz_6 37 rfl) rfl ?_
        exact im_end rfl (wp_zreturn 278 701 (ty := .boolean) rfl zn_0 (tz_6 38 rfl))
  · refine im_iconst 266 683 (tz_6 26 rfl) rfl ?_
    exact im_end rfl (wp_zreturn 267 684 (ty := .boolean) rfl zn_0 (tz_6 27 rfl))

set_option maxRecDepth 100000 in
set_option maxHeartbeats 4000000 in
theorem li_c11 {G : gl_T} {M0 : mm_T} {n : Nat} {xs : Nat → Int32} (hs : sc_H G n xs) (p1 p2 p3 : Nat) (i : Int32) (jj : mm_T → Option (Int32 × mm_T)) (hj : ∀ N, im_I mi_Z_law 26 601 G M0 sw_i (jj N) 3255 [some (.ref (st_B + 9000)), some (.ref p1), some (.ref p2), some (.ref p3), some (.int i), none, none, none, none] [] N) (N : mm_T) : im_I mi_Z_law 26 601 G M0 sw_i (lw_c11 n xs p1 p2 p3 i jj N) 705 [some (.ref (st_B + 9000)), some (.ref p1), some (.ref p2), some (.ref p3), some (.int i), none, none, none, none] [] N := by
  unfold lw_c11
  refine im_aload_n 280 705 (tz_7 0 rfl) rfl ?_
  refine im_aload_n 281 706 (tz_7 1 rfl) rfl ?_
  refine im_iload 282 707 (tz_7 2 rfl) rfl ?_
  refine im_iconst 283 709 (tz_7 3 rfl) rfl ?_
  refine im_iadd 284 710 (tz_7 4 rfl) ?_
  refine im_sld 285 711 hs (tz_7 5 rfl) (fun x1 => ?_)
  refine im_aload_n 286 712 (tz_7 6 rfl) rfl ?_
  refine im_cWi (S := []) (fun _ _ hv => cpW (fr' := 8) (lo' := 153) (i := 287) (As := [.ref p1, .int x1, .ref p3]) (S := []) (tz_7 7 rfl) lm_Z_200 mw_Z_predecessors mv_Z_predecessors rfl rfl rfl rfl (sp_Z_predecessors G hv)) (fun x2 M1 => ?_)
  refine im_istore 288 716 [some (.ref (st_B + 9000)), some (.ref p1), some (.ref p2), some (.ref p3), some (.int i), some (.int x2), none, none, none] rfl rfl rfl ?_
  refine im_aload_n 289 718 (tz_7 9 rfl) rfl ?_
  refine im_aload_n 290 719 (tz_7 10 rfl) rfl ?_
  refine im_iload 291 720 (tz_7 11 rfl) rfl ?_
  refine im_iconst 292 722 (tz_7 12 rfl) rfl ?_
  refine im_iadd 293 723 (tz_7 13 rfl) ?_
  refine im_sld 294 724 hs (tz_7 14 rfl) (fun x3 => ?_)
  refine im_cWi (S := []) (fun _ _ hv => cpV (fr' := 5) (lo' := 108) (i := 295) (As := [.int x3]) (S := []) (a := p2) (c := 11) (tz_7 15 rfl) lk_Z_202 mw_M_predecessors mv_M_predecessors rfl ⟨by decide, rfl⟩ rfl rfl rfl (gd_some hv).1 (sp_M_predecessors G hv)) (fun x4 M2 => ?_)
  refine im_istore 296 728 [some (.ref (st_B + 9000)), some (.ref p1), some (.ref p2), some (.ref p3), some (.int i), some (.int x2), some (.int x4), none, none] rfl rfl rfl ?_
  refine im_aload_n 297 730 (tz_7 17 rfl) rfl ?_
  refine im_ci (S := []) (fun _ hv => cpV (fr' := 1) (lo' := 20) (i := 298) (As := []) (S := []) (a := p2) (c := 11) (tz_7 18 rfl) lk_Z_161 mw_M_thrown mv_M_thrown rfl ⟨by decide, rfl⟩ rfl rfl rfl (gd_some hv).1 (sp_M_thrown G hv)) (fun x5 => ?_)
  refine im_iload 299 734 (tz_7 19 rfl) rfl ?_
  refine im_ic_eq 300 736 741 (tz_7 20 rfl) (by decide) ?_ ?_
  · refine im_iload 303 741 (tz_7 23 rfl) rfl ?_
    refine im_jp (fun j758 => im_I mi_Z_law 26 601 G M0 sw_i (j758) 758 [some (.ref (st_B + 9000)), some (.ref p1), some (.ref p2), some (.ref p3), some (.int i), none, none, none, none] [] M2) ?_ (fun j758 hj758 => ?_)
    · show im_I mi_Z_law 26 601 G M0 sw_i (_) 758 [some (.ref (st_B + 9000)), some (.ref p1), some (.ref p2), some (.ref p3), some (.int i), none, none, none, none] [] M2
      refine im_goto 314 758 3255 (tz_7 34 rfl) (by decide) ?_
      exact im_less _ (by simp [lv_le]) (hj M2)
    refine im_if_ne 304 743 758 (tz_7 24 rfl) (by decide) ?_ ?_
    · exact im_less _ (by simp [lv_le]) (hj758)
    · refine im_aload_n 305 746 (tz_7 25 rfl) rfl ?_
      refine im_iconst 306 747 (tz_7 26 rfl) rfl ?_
      refine im_laload 307 748 (tz_7 27 rfl) (fun x6 => ?_)
      refine im_iload 308 749 (tz_7 28 rfl) rfl ?_
      refine im_i2l 309 751 (tz_7 29 rfl) ?_
      refine im_lcmp 310 752 (tz_7 30 rfl) ?_
      refine im_if_eq 311 753 758 (tz_7 31 rfl) (by decide) ?_ ?_
      · exact im_less _ (by simp [lv_le]) (hj758)
      · refine im_iconst 312 756 (tz_7 32 rfl) rfl ?_
        exact im_end rfl (wp_zreturn 313 757 (ty := .boolean) rfl zn_0 (tz_7 33 rfl))
  · refine im_iconst 301 739 (tz_7 21 rfl) rfl ?_
    exact im_end rfl (wp_zreturn 302 740 (ty := .boolean) rfl zn_0 (tz_7 22 rfl))

set_option maxRecDepth 100000 in
set_option maxHeartbeats 4000000 in
theorem li_c12 {G : gl_T} {M0 : mm_T} {n : Nat} {xs : Nat → Int32} (hs : sc_H G n xs) (p1 p2 p3 : Nat) (i : Int32) (jj : mm_T → Option (Int32 × mm_T)) (hj : ∀ N, im_I mi_Z_law 26 601 G M0 sw_i (jj N) 3255 [some (.ref (st_B + 9000)), some (.ref p1), some (.ref p2), some (.ref p3), some (.int i), none, none, none, none] [] N) (N : mm_T) : im_I mi_Z_law 26 601 G M0 sw_i (lw_c12 n xs p1 p2 p3 i jj N) 761 [some (.ref (st_B + 9000)), some (.ref p1), some (.ref p2), some (.ref p3), some (.int i), none, none, none, none] [] N := by
  unfold lw_c12
  refine im_aload_n 315 761 (tz_7 35 rfl) rfl ?_
  refine im_aload_n 316 762 (tz_7 36 rfl) rfl ?_
  refine im_iload 317 763 (tz_7 37 rfl) rfl ?_
  refine im_iconst 318 765 (tz_7 38 rfl) rfl ?_
  refine im_iadd 319 766 (tz_7 39 rfl) ?_
  refine im_sld 320 767 hs (tz_8 0 rfl) (fun x1 => ?_)
  refine im_aload_n 321 768 (tz_8 1 rfl) rfl ?_
  refine im_cWi (S := []) (fun _ _ hv => cpW (fr' := 8) (lo' := 153) (i := 322) (As := [.ref p1, .int x1, .ref p3]) (S := []) (tz_8 2 rfl) lm_Z_203 mw_Z_isReachable mv_Z_isReachable rfl rfl rfl rfl (sp_Z_isReachable G hv)) (fun x2 M1 => ?_)
  refine im_istore 323 772 [some (.ref (st_B + 9000)), some (.ref p1), some (.ref p2), some (.ref p3), some (.int i), some (.int x2), none, none, none] rfl rfl rfl ?_
  refine im_aload_n 324 774 (tz_8 4 rfl) rfl ?_
  refine im_aload_n 325 775 (tz_8 5 rfl) rfl ?_
  refine im_iload 326 776 (tz_8 6 rfl) rfl ?_
  refine im_iconst 327 778 (tz_8 7 rfl) rfl ?_
  refine im_iadd 328 779 (tz_8 8 rfl) ?_
  refine im_sld 329 780 hs (tz_8 9 rfl) (fun x3 => ?_)
  refine im_cWi (S := []) (fun _ _ hv => cpV (fr' := 21) (lo' := 488) (i := 330) (As := [.int x3]) (S := []) (a := p2) (c := 11) (tz_8 10 rfl) lk_Z_205 mw_M_isReachable mv_M_isReachable rfl ⟨by decide, rfl⟩ rfl rfl rfl (gd_some hv).1 (sp_M_isReachable G hv)) (fun x4 M2 => ?_)
  refine im_istore 331 784 [some (.ref (st_B + 9000)), some (.ref p1), some (.ref p2), some (.ref p3), some (.int i), some (.int x2), some (.int x4), none, none] rfl rfl rfl ?_
  refine im_aload_n 332 786 (tz_8 12 rfl) rfl ?_
  refine im_ci (S := []) (fun _ hv => cpV (fr' := 1) (lo' := 20) (i := 333) (As := []) (S := []) (a := p2) (c := 11) (tz_8 13 rfl) lk_Z_161 mw_M_thrown mv_M_thrown rfl ⟨by decide, rfl⟩ rfl rfl rfl (gd_some hv).1 (sp_M_thrown G hv)) (fun x5 => ?_)
  refine im_iload 334 790 (tz_8 14 rfl) rfl ?_
  refine im_ic_eq 335 792 797 (tz_8 15 rfl) (by decide) ?_ ?_
  · refine im_iload 338 797 (tz_8 18 rfl) rfl ?_
    refine im_jp (fun j821 => im_I mi_Z_law 26 601 G M0 sw_i (j821) 821 [some (.ref (st_B + 9000)), some (.ref p1), some (.ref p2), some (.ref p3), some (.int i), none, none, none, none] [] M2) ?_ (fun j821 hj821 => ?_)
    · show im_I mi_Z_law 26 601 G M0 sw_i (_) 821 [some (.ref (st_B + 9000)), some (.ref p1), some (.ref p2), some (.ref p3), some (.int i), none, none, none, none] [] M2
      refine im_goto 352 821 3255 (tz_8 32 rfl) (by decide) ?_
      exact im_less _ (by simp [lv_le]) (hj M2)
    refine im_if_ne 339 799 821 (tz_8 19 rfl) (by decide) ?_ ?_
    · exact im_less _ (by simp [lv_le]) (hj821)
    · refine im_aload_n 340 802 (tz_8 20 rfl) rfl ?_
      refine im_iconst 341 803 (tz_8 21 rfl) rfl ?_
      refine im_laload 342 804 (tz_8 22 rfl) (fun x6 => ?_)
      refine im_iload 343 805 (tz_8 23 rfl) rfl ?_
      refine im_jp (fun j815 => ∀ (x7 : Int64), im_I mi_Z_law 26 601 G M0 sw_i (j815 x7) 815 [some (.ref (st_B + 9000)), some (.ref p1), some (.ref p2), some (.ref p3), some (.int i), none, none, none, none] [.long x7, .long x6] M2) ?_ (fun j815 hj815 => ?_)
      · intro x7
        show im_I mi_Z_law 26 601 G M0 sw_i (_) 815 [some (.ref (st_B + 9000)), some (.ref p1), some (.ref p2), some (.ref p3), some (.int i), none, none, none, none] [.long x7, .long x6] M2
        refine im_lcmp 348 815 (tz_8 28 rfl) ?_
        refine im_if_eq 349 816 821 (tz_8 29 rfl) (by decide) ?_ ?_
        · exact im_less _ (by simp [lv_le]) (hj821)
        · refine im_iconst 350 819 (tz_8 30 rfl) rfl ?_
          exact im_end rfl (wp_zreturn 351 820 (ty := .boolean) rfl zn_0 (tz_8 31 rfl))
      refine im_if_eq 344 807 814 (tz_8 24 rfl) (by decide) ?_ ?_
      · refine im_lconst 347 814 (tz_8 27 rfl) rfl ?_
        exact im_less _ (by simp [lv_le]) (hj815 (0 : Int64))
      · refine im_lconst 345 810 (tz_8 25 rfl) rfl ?_
        refine im_goto 346 811 815 (tz_8 26 rfl) (by decide) ?_
        exact im_less _ (by simp [lv_le]) (hj815 (1 : Int64))
  · refine im_iconst 336 795 (tz_8 16 rfl) rfl ?_
    exact im_end rfl (wp_zreturn 337 796 (ty := .boolean) rfl zn_0 (tz_8 17 rfl))

set_option maxRecDepth 100000 in
set_option maxHeartbeats 4000000 in
theorem li_c13 {G : gl_T} {M0 : mm_T} {n : Nat} {xs : Nat → Int32} (hs : sc_H G n xs) (p1 p2 p3 : Nat) (i : Int32) (jj : mm_T → Option (Int32 × mm_T)) (hj : ∀ N, im_I mi_Z_law 26 601 G M0 sw_i (jj N) 3255 [some (.ref (st_B + 9000)), some (.ref p1), some (.ref p2), some (.ref p3), some (.int i), none, none, none, none] [] N) (N : mm_T) : im_I mi_Z_law 26 601 G M0 sw_i (lw_c13 n xs p1 p2 p3 i jj N) 824 [some (.ref (st_B + 9000)), some (.ref p1), some (.ref p2), some (.ref p3), some (.int i), none, none, none, none] [] N := by
  unfold lw_c13
  refine im_aload_n 353 824 (tz_8 33 rfl) rfl ?_
  refine im_aload_n 354 825 (tz_8 34 rfl) rfl ?_
  refine im_iload 355 826 (tz_8 35 rfl) rfl ?_
  refine im_iconst 356 828 (tz_8 36 rfl) rfl ?_
  refine im_iadd 357 829 (tz_8 37 rfl) ?_
  refine im_sld 358 830 hs (tz_8 38 rfl) (fun x1 => ?_)
  refine im_aload_n 359 831 (tz_8 39 rfl) rfl ?_
  refine im_cWi (S := []) (fun _ _ hv => cpW (fr' := 8) (lo' := 153) (i := 360) (As := [.ref p1, .int x1, .ref p3]) (S := []) (tz_9 0 rfl) lm_Z_206 mw_Z_distanceTo mv_Z_distanceTo rfl rfl rfl rfl (sp_Z_distanceTo G hv)) (fun x2 M1 => ?_)
  refine im_istore 361 835 [some (.ref (st_B + 9000)), some (.ref p1), some (.ref p2), some (.ref p3), some (.int i), some (.int x2), none, none, none] rfl rfl rfl ?_
  refine im_aload_n 362 837 (tz_9 2 rfl) rfl ?_
  refine im_aload_n 363 838 (tz_9 3 rfl) rfl ?_
  refine im_iload 364 839 (tz_9 4 rfl) rfl ?_
  refine im_iconst 365 841 (tz_9 5 rfl) rfl ?_
  refine im_iadd 366 842 (tz_9 6 rfl) ?_
  refine im_sld 367 843 hs (tz_9 7 rfl) (fun x3 => ?_)
  refine im_cWi (S := []) (fun _ _ hv => cpV (fr' := 4) (lo' := 85) (i := 368) (As := [.int x3]) (S := []) (a := p2) (c := 11) (tz_9 8 rfl) lk_Z_208 mw_M_distanceTo mv_M_distanceTo rfl ⟨by decide, rfl⟩ rfl rfl rfl (gd_some hv).1 (sp_M_distanceTo G hv)) (fun x4 M2 => ?_)
  refine im_istore 369 847 [some (.ref (st_B + 9000)), some (.ref p1), some (.ref p2), some (.ref p3), some (.int i), some (.int x2), some (.int x4), none, none] rfl rfl rfl ?_
  refine im_aload_n 370 849 (tz_9 10 rfl) rfl ?_
  refine im_ci (S := []) (fun _ hv => cpV (fr' := 1) (lo' := 20) (i := 371) (As := []) (S := []) (a := p2) (c := 11) (tz_9 11 rfl) lk_Z_161 mw_M_thrown mv_M_thrown rfl ⟨by decide, rfl⟩ rfl rfl rfl (gd_some hv).1 (sp_M_thrown G hv)) (fun x5 => ?_)
  refine im_iload 372 853 (tz_9 12 rfl) rfl ?_
  refine im_ic_eq 373 855 860 (tz_9 13 rfl) (by decide) ?_ ?_
  · refine im_iload 376 860 (tz_9 16 rfl) rfl ?_
    refine im_jp (fun j877 => im_I mi_Z_law 26 601 G M0 sw_i (j877) 877 [some (.ref (st_B + 9000)), some (.ref p1), some (.ref p2), some (.ref p3), some (.int i), none, none, none, none] [] M2) ?_ (fun j877 hj877 => ?_)
    · show im_I mi_Z_law 26 601 G M0 sw_i (_) 877 [some (.ref (st_B + 9000)), some (.ref p1), some (.ref p2), some (.ref p3), some (.int i), none, none, none, none] [] M2
      refine im_goto 387 877 3255 (tz_9 27 rfl) (by decide) ?_
      exact im_less _ (by simp [lv_le]) (hj M2)
    refine im_if_ne 377 862 877 (tz_9 17 rfl) (by decide) ?_ ?_
    · exact im_less _ (by simp [lv_le]) (hj877)
    · refine im_aload_n 378 865 (tz_9 18 rfl) rfl ?_
      refine im_iconst 379 866 (tz_9 19 rfl) rfl ?_
      refine im_laload 380 867 (tz_9 20 rfl) (fun x6 => ?_)
      refine im_iload 381 868 (tz_9 21 rfl) rfl ?_
      refine im_i2l 382 870 (tz_9 22 rfl) ?_
      refine im_lcmp 383 871 (tz_9 23 rfl) ?_
      refine im_if_eq 384 872 877 (tz_9 24 rfl) (by decide) ?_ ?_
      · exact im_less _ (by simp [lv_le]) (hj877)
      · refine im_iconst 385 875 (tz_9 25 rfl) rfl ?_
        exact im_end rfl (wp_zreturn 386 876 (ty := .boolean) rfl zn_0 (tz_9 26 rfl))
  · refine im_iconst 374 858 (tz_9 14 rfl) rfl ?_
    exact im_end rfl (wp_zreturn 375 859 (ty := .boolean) rfl zn_0 (tz_9 15 rfl))

set_option maxRecDepth 100000 in
set_option maxHeartbeats 4000000 in
theorem li_c14 {G : gl_T} {M0 : mm_T} {n : Nat} {xs : Nat → Int32} (hs : sc_H G n xs) (p1 p2 p3 : Nat) (i : Int32) (jj : mm_T → Option (Int32 × mm_T)) (hj : ∀ N, im_I mi_Z_law 26 601 G M0 sw_i (jj N) 3255 [some (.ref (st_B + 9000)), some (.ref p1), some (.ref p2), some (.ref p3), some (.int i), none, none, none, none] [] N) (N : mm_T) : im_I mi_Z_law 26 601 G M0 sw_i (lw_c14 n xs p1 p2 p3 i jj N) 880 [some (.ref (st_B + 9000)), some (.ref p1), some (.ref p2), some (.ref p3), some (.int i), none, none, none, none] [] N := by
  unfold lw_c14
  refine im_aload_n 388 880 (tz_9 28 rfl) rfl ?_
  refine im_aload_n 389 881 (tz_9 29 rfl) rfl ?_
  refine im_iload 390 882 (tz_9 30 rfl) rfl ?_
  refine im_iconst 391 884 (tz_9 31 rfl) rfl ?_
  refine im_iadd 392 885 (tz_9 32 rfl) ?_
  refine im_sld 393 886 hs (tz_9 33 rfl) (fun x1 => ?_)
  refine im_aload_n 394 887 (tz_9 34 rfl) rfl ?_
  refine im_iload 395 888 (tz_9 35 rfl) rfl ?_
  refine im_iconst 396 890 (tz_9 36 rfl) rfl ?_
  refine im_iadd 397 891 (tz_9 37 rfl) ?_
  refine im_sld 398 892 hs (tz_9 38 rfl) (fun x2 => ?_)
  refine im_aload_n 399 893 (tz_9 39 rfl) rfl ?_
  refine im_cWi (S := []) (fun _ _ hv => cpW (fr' := 8) (lo' := 180) (i := 400) (As := [.ref p1, .int x1, .int x2, .ref p3]) (S := []) (tz_10 0 rfl) lm_Z_209 mw_Z_reaches mv_Z_reaches rfl rfl rfl rfl (sp_Z_reaches G hv)) (fun x3 M1 => ?_)
  refine im_istore 401 897 [some (.ref (st_B + 9000)), some (.ref p1), some (.ref p2), some (.ref p3), some (.int i), some (.int x3), none, none, none] rfl rfl rfl ?_
  refine im_aload_n 402 899 (tz_10 2 rfl) rfl ?_
  refine im_aload_n 403 900 (tz_10 3 rfl) rfl ?_
  refine im_iload 404 901 (tz_10 4 rfl) rfl ?_
  refine im_iconst 405 903 (tz_10 5 rfl) rfl ?_
  refine im_iadd 406 904 (tz_10 6 rfl) ?_
  refine im_sld 407 905 hs (tz_10 7 rfl) (fun x4 => ?_)
  refine im_aload_n 408 906 (tz_10 8 rfl) rfl ?_
  refine im_iload 409 907 (tz_10 9 rfl) rfl ?_
  refine im_iconst 410 909 (tz_10 10 rfl) rfl ?_
  refine im_iadd 411 910 (tz_10 11 rfl) ?_
  refine im_sld 412 911 hs (tz_10 12 rfl) (fun x5 => ?_)
  refine im_cWi (S := []) (fun _ _ hv => cpV (fr' := 21) (lo' := 491) (i := 413) (As := [.int x4, .int x5]) (S := []) (a := p2) (c := 11) (tz_10 13 rfl) lk_Z_211 mw_M_reaches mv_M_reaches rfl ⟨by decide, rfl⟩ rfl rfl rfl (gd_some hv).1 (sp_M_reaches G hv)) (fun x6 M2 => ?_)
  refine im_istore 414 915 [some (.ref (st_B + 9000)), some (.ref p1), some (.ref p2), some (.ref p3), some (.int i), some (.int x3), some (.int x6), none, none] rfl rfl rfl ?_
  refine im_aload_n 415 917 (tz_10 15 rfl) rfl ?_
  refine im_ci (S := []) (fun _ hv => cpV (fr' := 1) (lo' := 20) (i := 416) (As := []) (S := []) (a := p2) (c := 11) (tz_10 16 rfl) lk_Z_161 mw_M_thrown mv_M_thrown rfl ⟨by decide, rfl⟩ rfl rfl rfl (gd_some hv).1 (sp_M_thrown G hv)) (fun x7 => ?_)
  refine im_iload 417 921 (tz_10 17 rfl) rfl ?_
  refine im_ic_eq 418 923 928 (tz_10 18 rfl) (by decide) ?_ ?_
  · refine im_iload 421 928 (tz_10 21 rfl) rfl ?_
    refine im_jp (fun j952 => im_I mi_Z_law 26 601 G M0 sw_i (j952) 952 [some (.ref (st_B + 9000)), some (.ref p1), some (.ref p2), some (.ref p3), some (.int i), none, none, none, none] [] M2) ?_ (fun j952 hj952 => ?_)
    · show im_I mi_Z_law 26 601 G M0 sw_i (_) 952 [some (.ref (st_B + 9000)), some (.ref p1), some (.ref p2), some (.ref p3), some (.int i), none, none, none, none] [] M2
      refine im_goto 435 952 3255 (tz_10 35 rfl) (by decide) ?_
      exact im_less _ (by simp [lv_le]) (hj M2)
    refine im_if_ne 422 930 952 (tz_10 22 rfl) (by decide) ?_ ?_
    · exact im_less _ (by simp [lv_le]) (hj952)
    · refine im_aload_n 423 933 (tz_10 23 rfl) rfl ?_
      refine im_iconst 424 934 (tz_10 24 rfl) rfl ?_
      refine im_laload 425 935 (tz_10 25 rfl) (fun x8 => ?_)
      refine im_iload 426 936 (tz_10 26 rfl) rfl ?_
      refine im_jp (fun j946 => ∀ (x9 : Int64), im_I mi_Z_law 26 601 G M0 sw_i (j946 x9) 946 [some (.ref (st_B + 9000)), some (.ref p1), some (.ref p2), some (.ref p3), some (.int i), none, none, none, none] [.long x9, .long x8] M2) ?_ (fun j946 hj946 => ?_)
      · intro x9
        show im_I mi_Z_law 26 601 G M0 sw_i (_) 946 [some (.ref (st_B + 9000)), some (.ref p1), some (.ref p2), some (.ref p3), some (.int i), none, none, none, none] [.long x9, .long x8] M2
        refine im_lcmp 431 946 (tz_10 31 rfl) ?_
        refine im_if_eq 432 947 952 (tz_10 32 rfl) (by decide) ?_ ?_
        · exact im_less _ (by simp [lv_le]) (hj952)
        · refine im_iconst 433 950 (tz_10 33 rfl) rfl ?_
          exact im_end rfl (wp_zreturn 434 951 (ty := .boolean) rfl zn_0 (tz_10 34 rfl))
      refine im_if_eq 427 938 945 (tz_10 27 rfl) (by decide) ?_ ?_
      · refine im_lconst 430 945 (tz_10 30 rfl) rfl ?_
        exact im_less _ (by simp [lv_le]) (hj946 (0 : Int64))
      · refine im_lconst 428 941 (tz_10 28 rfl) rfl ?_
        refine im_goto 429 942 946 (tz_10 29 rfl) (by decide) ?_
        exact im_less _ (by simp [lv_le]) (hj946 (1 : Int64))
  · refine im_iconst 419 926 (tz_10 19 rfl) rfl ?_
    exact im_end rfl (wp_zreturn 420 927 (ty := .boolean) rfl zn_0 (tz_10 20 rfl))

set_option maxRecDepth 100000 in
set_option maxHeartbeats 4000000 in
theorem li_c15 {G : gl_T} {M0 : mm_T} {n : Nat} {xs : Nat → Int32} (hs : sc_H G n xs) (p1 p2 p3 : Nat) (i : Int32) (jj : mm_T → Option (Int32 × mm_T)) (hj : ∀ N, im_I mi_Z_law 26 601 G M0 sw_i (jj N) 3255 [some (.ref (st_B + 9000)), some (.ref p1), some (.ref p2), some (.ref p3), some (.int i), none, none, none, none] [] N) (N : mm_T) : im_I mi_Z_law 26 601 G M0 sw_i (lw_c15 n xs p1 p2 p3 i jj N) 955 [some (.ref (st_B + 9000)), some (.ref p1), some (.ref p2), some (.ref p3), some (.int i), none, none, none, none] [] N := by
  unfold lw_c15
  refine im_aload_n 436 955 (tz_10 36 rfl) rfl ?_
  refine im_aload_n 437 956 (tz_10 37 rfl) rfl ?_
  refine im_iload 438 957 (tz_10 38 rfl) rfl ?_
  refine im_iconst 439 959 (tz_10 39 rfl) rfl ?_
  refine im_iadd 440 960 (tz_11 0 rfl) ?_
  refine im_sld 441 961 hs (tz_11 1 rfl) (fun x1 => ?_)
  refine im_aload_n 442 962 (tz_11 2 rfl) rfl ?_
  refine im_iload 443 963 (tz_11 3 rfl) rfl ?_
  refine im_iconst 444 965 (tz_11 4 rfl) rfl ?_
  refine im_iadd 445 966 (tz_11 5 rfl) ?_
  refine im_sld 446 967 hs (tz_11 6 rfl) (fun x2 => ?_)
  refine im_aload_n 447 968 (tz_11 7 rfl) rfl ?_
  refine im_cWi (S := []) (fun _ _ hv => cpW (fr' := 8) (lo' := 180) (i := 448) (As := [.ref p1, .int x1, .int x2, .ref p3]) (S := []) (tz_11 8 rfl) lm_Z_212 mw_Z_reachingDefinitions mv_Z_reachingDefinitions rfl rfl rfl rfl (sp_Z_reachingDefinitions G hv)) (fun x3 M1 => ?_)
  refine im_istore 449 972 [some (.ref (st_B + 9000)), some (.ref p1), some (.ref p2), some (.ref p3), some (.int i), some (.int x3), none, none, none] rfl rfl rfl ?_
  refine im_aload_n 450 974 (tz_11 10 rfl) rfl ?_
  refine im_aload_n 451 975 (tz_11 11 rfl) rfl ?_
  refine im_iload 452 976 (tz_11 12 rfl) rfl ?_
  refine im_iconst 453 978 (tz_11 13 rfl) rfl ?_
  refine im_iadd 454 979 (tz_11 14 rfl) ?_
  refine im_sld 455 980 hs (tz_11 15 rfl) (fun x4 => ?_)
  refine im_aload_n 456 981 (tz_11 16 rfl) rfl ?_
  refine im_iload 457 982 (tz_11 17 rfl) rfl ?_
  refine im_iconst 458 984 (tz_11 18 rfl) rfl ?_
  refine im_iadd 459 985 (tz_11 19 rfl) ?_
  refine im_sld 460 986 hs (tz_11 20 rfl) (fun x5 => ?_)
  refine im_cWi (S := []) (fun _ _ hv => cpV (fr' := 21) (lo' := 491) (i := 461) (As := [.int x4, .int x5]) (S := []) (a := p2) (c := 11) (tz_11 21 rfl) lk_Z_214 mw_M_reachingDefinitions mv_M_reachingDefinitions rfl ⟨by decide, rfl⟩ rfl rfl rfl (gd_some hv).1 (sp_M_reachingDefinitions G hv)) (fun x6 M2 => ?_)
  refine im_istore 462 990 [some (.ref (st_B + 9000)), some (.ref p1), some (.ref p2), some (.ref p3), some (.int i), some (.int x3), some (.int x6), none, none] rfl rfl rfl ?_
  refine im_aload_n 463 992 (tz_11 23 rfl) rfl ?_
  refine im_ci (S := []) (fun _ hv => cpV (fr' := 1) (lo' := 20) (i := 464) (As := []) (S := []) (a := p2) (c := 11) (tz_11 24 rfl) lk_Z_161 mw_M_thrown mv_M_thrown rfl ⟨by decide, rfl⟩ rfl rfl rfl (gd_some hv).1 (sp_M_thrown G hv)) (fun x7 => ?_)
  refine im_iload 465 996 (tz_11 25 rfl) rfl ?_
  refine im_ic_eq 466 998 1003 (tz_11 26 rfl) (by decide) ?_ ?_
  · refine im_iload 469 1003 (tz_11 29 rfl) rfl ?_
    refine im_jp (fun j1020 => im_I mi_Z_law 26 601 G M0 sw_i (j1020) 1020 [some (.ref (st_B + 9000)), some (.ref p1), some (.ref p2), some (.ref p3), some (.int i), none, none, none, none] [] M2) ?_ (fun j1020 hj1020 => ?_)
    · show im_I mi_Z_law 26 601 G M0 sw_i (_) 1020 [some (.ref (st_B + 9000)), some (.ref p1), some (.ref p2), some (.ref p3), some (.int i), none, none, none, none] [] M2
      refine im_goto 480 1020 3255 (tz_12 0 rfl) (by decide) ?_
      exact im_less _ (by simp [lv_le]) (hj M2)
    refine im_if_ne 470 1005 1020 (tz_11 30 rfl) (by decide) ?_ ?_
    · exact im_less _ (by simp [lv_le]) (hj1020)
    · refine im_aload_n 471 1008 (tz_11 31 rfl) rfl ?_
      refine im_iconst 472 1009 (tz_11 32 rfl) rfl ?_
      refine im_laload 473 1010 (tz_11 33 rfl) (fun x8 => ?_)
      refine im_iload 474 1011 (tz_11 34 rfl) rfl ?_
      refine im_i2l 475 1013 (tz_11 35 rfl) ?_
      refine im_lcmp 476 1014 (tz_11 36 rfl) ?_
      refine im_if_eq 477 1015 1020 (tz_11 37 rfl) (by decide) ?_ ?_
      · exact im_less _ (by simp [lv_le]) (hj1020)
      · refine im_iconst 478 1018 (tz_11 38 rfl) rfl ?_
        exact im_end rfl (wp_zreturn 479 1019 (ty := .boolean) rfl zn_0 (tz_11 39 rfl))
  · refine im_iconst 467 1001 (tz_11 27 rfl) rfl ?_
    exact im_end rfl (wp_zreturn 468 1002 (ty := .boolean) rfl zn_0 (tz_11 28 rfl))

set_option maxRecDepth 100000 in
set_option maxHeartbeats 4000000 in
theorem li_c16 {G : gl_T} {M0 : mm_T} {n : Nat} {xs : Nat → Int32} (hs : sc_H G n xs) (p1 p2 p3 : Nat) (i : Int32) (jj : mm_T → Option (Int32 × mm_T)) (hj : ∀ N, im_I mi_Z_law 26 601 G M0 sw_i (jj N) 3255 [some (.ref (st_B + 9000)), some (.ref p1), some (.ref p2), some (.ref p3), some (.int i), none, none, none, none] [] N) (N : mm_T) : im_I mi_Z_law 26 601 G M0 sw_i (lw_c16 n xs p1 p2 p3 i jj N) 1023 [some (.ref (st_B + 9000)), some (.ref p1), some (.ref p2), some (.ref p3), some (.int i), none, none, none, none] [] N := by
  unfold lw_c16
  refine im_aload_n 481 1023 (tz_12 1 rfl) rfl ?_
  refine im_aload_n 482 1024 (tz_12 2 rfl) rfl ?_
  refine im_iload 483 1025 (tz_12 3 rfl) rfl ?_
  refine im_iconst 484 1027 (tz_12 4 rfl) rfl ?_
  refine im_iadd 485 1028 (tz_12 5 rfl) ?_
  refine im_sld 486 1029 hs (tz_12 6 rfl) (fun x1 => ?_)
  refine im_aload_n 487 1030 (tz_12 7 rfl) rfl ?_
  refine im_iload 488 1031 (tz_12 8 rfl) rfl ?_
  refine im_iconst 489 1033 (tz_12 9 rfl) rfl ?_
  refine im_iadd 490 1034 (tz_12 10 rfl) ?_
  refine im_sld 491 1035 hs (tz_12 11 rfl) (fun x2 => ?_)
  refine im_aload_n 492 1036 (tz_12 12 rfl) rfl ?_
  refine im_cWi (S := []) (fun _ _ hv => cpW (fr' := 8) (lo' := 180) (i := 493) (As := [.ref p1, .int x1, .int x2, .ref p3]) (S := []) (tz_12 13 rfl) lm_Z_215 mw_Z_isInitialReaching mv_Z_isInitialReaching rfl rfl rfl rfl (sp_Z_isInitialReaching G hv)) (fun x3 M1 => ?_)
  refine im_istore 494 1040 [some (.ref (st_B + 9000)), some (.ref p1), some (.ref p2), some (.ref p3), some (.int i), some (.int x3), none, none, none] rfl rfl rfl ?_
  refine im_aload_n 495 1042 (tz_12 15 rfl) rfl ?_
  refine im_aload_n 496 1043 (tz_12 16 rfl) rfl ?_
  refine im_iload 497 1044 (tz_12 17 rfl) rfl ?_
  refine im_iconst 498 1046 (tz_12 18 rfl) rfl ?_
  refine im_iadd 499 1047 (tz_12 19 rfl) ?_
  refine im_sld 500 1048 hs (tz_12 20 rfl) (fun x4 => ?_)
  refine im_aload_n 501 1049 (tz_12 21 rfl) rfl ?_
  refine im_iload 502 1050 (tz_12 22 rfl) rfl ?_
  refine im_iconst 503 1052 (tz_12 23 rfl) rfl ?_
  refine im_iadd 504 1053 (tz_12 24 rfl) ?_
  refine im_sld 505 1054 hs (tz_12 25 rfl) (fun x5 => ?_)
  refine im_cWi (S := []) (fun _ _ hv => cpV (fr' := 21) (lo' := 488) (i := 506) (As := [.int x4, .int x5]) (S := []) (a := p2) (c := 11) (tz_12 26 rfl) lk_Z_217 mw_M_isInitialReaching mv_M_isInitialReaching rfl ⟨by decide, rfl⟩ rfl rfl rfl (gd_some hv).1 (sp_M_isInitialReaching G hv)) (fun x6 M2 => ?_)
  refine im_istore 507 1058 [some (.ref (st_B + 9000)), some (.ref p1), some (.ref p2), some (.ref p3), some (.int i), some (.int x3), some (.int x6), none, none] rfl rfl rfl ?_
  refine im_aload_n 508 1060 (tz_12 28 rfl) rfl ?_
  refine im_ci (S := []) (fun _ hv => cpV (fr' := 1) (lo' := 20) (i := 509) (As := []) (S := []) (a := p2) (c := 11) (tz_12 29 rfl) lk_Z_161 mw_M_thrown mv_M_thrown rfl ⟨by decide, rfl⟩ rfl rfl rfl (gd_some hv).1 (sp_M_thrown G hv)) (fun x7 => ?_)
  refine im_iload 510 1064 (tz_12 30 rfl) rfl ?_
  refine im_ic_eq 511 1066 1071 (tz_12 31 rfl) (by decide) ?_ ?_
  · refine im_iload 514 1071 (tz_12 34 rfl) rfl ?_
    refine im_jp (fun j1095 => im_I mi_Z_law 26 601 G M0 sw_i (j1095) 1095 [some (.ref (st_B + 9000)), some (.ref p1), some (.ref p2), some (.ref p3), some (.int i), none, none, none, none] [] M2) ?_ (fun j1095 hj1095 => ?_)
    · show im_I mi_Z_law 26 601 G M0 sw_i (_) 1095 [some (.ref (st_B + 9000)), some (.ref p1), some (.ref p2), some (.ref p3), some (.int i), none, none, none, none] [] M2
      refine im_goto 528 1095 3255 (tz_13 8 rfl) (by decide) ?_
      exact im_less _ (by simp [lv_le]) (hj M2)
    refine im_if_ne 515 1073 1095 (tz_12 35 rfl) (by decide) ?_ ?_
    · exact im_less _ (by simp [lv_le]) (hj1095)
    · refine im_aload_n 516 1076 (tz_12 36 rfl) rfl ?_
      refine im_iconst 517 1077 (tz_12 37 rfl) rfl ?_
      refine im_laload 518 1078 (tz_12 38 rfl) (fun x8 => ?_)
      refine im_iload 519 1079 (tz_12 39 rfl) rfl ?_
      refine im_jp (fun j1089 => ∀ (x9 : Int64), im_I mi_Z_law 26 601 G M0 sw_i (j1089 x9) 1089 [some (.ref (st_B + 9000)), some (.ref p1), some (.ref p2), some (.ref p3), some (.int i), none, none, none, none] [.long x9, .long x8] M2) ?_ (fun j1089 hj1089 => ?_)
      · intro x9
        show im_I mi_Z_law 26 601 G M0 sw_i (_) 1089 [some (.ref (st_B + 9000)), some (.ref p1), some (.ref p2), some (.ref p3), some (.int i), none, none, none, none] [.long x9, .long x8] M2
        refine im_lcmp 524 1089 (tz_13 4 rfl) ?_
        refine im_if_eq 525 1090 1095 (tz_13 5 rfl) (by decide) ?_ ?_
        · exact im_less _ (by simp [lv_le]) (hj1095)
        · refine im_iconst 526 1093 (tz_13 6 rfl) rfl ?_
          exact im_end rfl (wp_zreturn 527 1094 (ty := .boolean) rfl zn_0 (tz_13 7 rfl))
      refine im_if_eq 520 1081 1088 (tz_13 0 rfl) (by decide) ?_ ?_
      · refine im_lconst 523 1088 (tz_13 3 rfl) rfl ?_
        exact im_less _ (by simp [lv_le]) (hj1089 (0 : Int64))
      · refine im_lconst 521 1084 (tz_13 1 rfl) rfl ?_
        refine im_goto 522 1085 1089 (tz_13 2 rfl) (by decide) ?_
        exact im_less _ (by simp [lv_le]) (hj1089 (1 : Int64))
  · refine im_iconst 512 1069 (tz_12 32 rfl) rfl ?_
    exact im_end rfl (wp_zreturn 513 1070 (ty := .boolean) rfl zn_0 (tz_12 33 rfl))

set_option maxRecDepth 100000 in
set_option maxHeartbeats 4000000 in
theorem li_c17 {G : gl_T} {M0 : mm_T} {n : Nat} {xs : Nat → Int32} (hs : sc_H G n xs) (p1 p2 p3 : Nat) (i : Int32) (jj : mm_T → Option (Int32 × mm_T)) (hj : ∀ N, im_I mi_Z_law 26 601 G M0 sw_i (jj N) 3255 [some (.ref (st_B + 9000)), some (.ref p1), some (.ref p2), some (.ref p3), some (.int i), none, none, none, none] [] N) (N : mm_T) : im_I mi_Z_law 26 601 G M0 sw_i (lw_c17 n xs p1 p2 p3 i jj N) 1098 [some (.ref (st_B + 9000)), some (.ref p1), some (.ref p2), some (.ref p3), some (.int i), none, none, none, none] [] N := by
  unfold lw_c17
  refine im_aload_n 529 1098 (tz_13 9 rfl) rfl ?_
  refine im_aload_n 530 1099 (tz_13 10 rfl) rfl ?_
  refine im_iload 531 1100 (tz_13 11 rfl) rfl ?_
  refine im_iconst 532 1102 (tz_13 12 rfl) rfl ?_
  refine im_iadd 533 1103 (tz_13 13 rfl) ?_
  refine im_sld 534 1104 hs (tz_13 14 rfl) (fun x1 => ?_)
  refine im_aload_n 535 1105 (tz_13 15 rfl) rfl ?_
  refine im_cWi (S := []) (fun _ _ hv => cpW (fr' := 8) (lo' := 179) (i := 536) (As := [.ref p1, .int x1, .ref p3]) (S := []) (tz_13 16 rfl) lm_Z_218 mw_Z_usesOf mv_Z_usesOf rfl rfl rfl rfl (sp_Z_usesOf G hv)) (fun x2 M1 => ?_)
  refine im_istore 537 1109 [some (.ref (st_B + 9000)), some (.ref p1), some (.ref p2), some (.ref p3), some (.int i), some (.int x2), none, none, none] rfl rfl rfl ?_
  refine im_aload_n 538 1111 (tz_13 18 rfl) rfl ?_
  refine im_aload_n 539 1112 (tz_13 19 rfl) rfl ?_
  refine im_iload 540 1113 (tz_13 20 rfl) rfl ?_
  refine im_iconst 541 1115 (tz_13 21 rfl) rfl ?_
  refine im_iadd 542 1116 (tz_13 22 rfl) ?_
  refine im_sld 543 1117 hs (tz_13 23 rfl) (fun x3 => ?_)
  refine im_cWi (S := []) (fun _ _ hv => cpV (fr' := 22) (lo' := 515) (i := 544) (As := [.int x3]) (S := []) (a := p2) (c := 11) (tz_13 24 rfl) lk_Z_220 mw_M_usesOf mv_M_usesOf rfl ⟨by decide, rfl⟩ rfl rfl rfl (gd_some hv).1 (sp_M_usesOf G hv)) (fun x4 M2 => ?_)
  refine im_istore 545 1121 [some (.ref (st_B + 9000)), some (.ref p1), some (.ref p2), some (.ref p3), some (.int i), some (.int x2), some (.int x4), none, none] rfl rfl rfl ?_
  refine im_aload_n 546 1123 (tz_13 26 rfl) rfl ?_
  refine im_ci (S := []) (fun _ hv => cpV (fr' := 1) (lo' := 20) (i := 547) (As := []) (S := []) (a := p2) (c := 11) (tz_13 27 rfl) lk_Z_161 mw_M_thrown mv_M_thrown rfl ⟨by decide, rfl⟩ rfl rfl rfl (gd_some hv).1 (sp_M_thrown G hv)) (fun x5 => ?_)
  refine im_iload 548 1127 (tz_13 28 rfl) rfl ?_
  refine im_ic_eq 549 1129 1134 (tz_13 29 rfl) (by decide) ?_ ?_
  · refine im_iload 552 1134 (tz_13 32 rfl) rfl ?_
    refine im_jp (fun j1151 => im_I mi_Z_law 26 601 G M0 sw_i (j1151) 1151 [some (.ref (st_B + 9000)), some (.ref p1), some (.ref p2), some (.ref p3), some (.int i), none, none, none, none] [] M2) ?_ (fun j1151 hj1151 => ?_)
    · show im_I mi_Z_law 26 601 G M0 sw_i (_) 1151 [some (.ref (st_B + 9000)), some (.ref p1), some (.ref p2), some (.ref p3), some (.int i), none, none, none, none] [] M2
      refine im_goto 563 1151 3255 (tz_14 3 rfl) (by decide) ?_
      exact im_less _ (by simp [lv_le]) (hj M2)
    refine im_if_ne 553 1136 1151 (tz_13 33 rfl) (by decide) ?_ ?_
    · exact im_less _ (by simp [lv_le]) (hj1151)
    · refine im_aload_n 554 1139 (tz_13 34 rfl) rfl ?_
      refine im_iconst 555 1140 (tz_13 35 rfl) rfl ?_
      refine im_laload 556 1141 (tz_13 36 rfl) (fun x6 => ?_)
      refine im_iload 557 1142 (tz_13 37 rfl) rfl ?_
      refine im_i2l 558 1144 (tz_13 38 rfl) ?_
      refine im_lcmp 559 1145 (tz_13 39 rfl) ?_
      refine im_if_eq 560 1146 1151 (tz_14 0 rfl) (by decide) ?_ ?_
      · exact im_less _ (by simp [lv_le]) (hj1151)
      · refine im_iconst 561 1149 (tz_14 1 rfl) rfl ?_
        exact im_end rfl (wp_zreturn 562 1150 (ty := .boolean) rfl zn_0 (tz_14 2 rfl))
  · refine im_iconst 550 1132 (tz_13 30 rfl) rfl ?_
    exact im_end rfl (wp_zreturn 551 1133 (ty := .boolean) rfl zn_0 (tz_13 31 rfl))

set_option maxRecDepth 100000 in
set_option maxHeartbeats 4000000 in
theorem li_c18 {G : gl_T} {M0 : mm_T} {n : Nat} {xs : Nat → Int32} (hs : sc_H G n xs) (p1 p2 p3 : Nat) (i : Int32) (jj : mm_T → Option (Int32 × mm_T)) (hj : ∀ N, im_I mi_Z_law 26 601 G M0 sw_i (jj N) 3255 [some (.ref (st_B + 9000)), some (.ref p1), some (.ref p2), some (.ref p3), some (.int i), none, none, none, none] [] N) (N : mm_T) : im_I mi_Z_law 26 601 G M0 sw_i (lw_c18 n xs p1 p2 p3 i jj N) 1154 [some (.ref (st_B + 9000)), some (.ref p1), some (.ref p2), some (.ref p3), some (.int i), none, none, none, none] [] N := by
  unfold lw_c18
  refine im_aload_n 564 1154 (tz_14 4 rfl) rfl ?_
  refine im_aload_n 565 1155 (tz_14 5 rfl) rfl ?_
  refine im_iload 566 1156 (tz_14 6 rfl) rfl ?_
  refine im_iconst 567 1158 (tz_14 7 rfl) rfl ?_
  refine im_iadd 568 1159 (tz_14 8 rfl) ?_
  refine im_sld 569 1160 hs (tz_14 9 rfl) (fun x1 => ?_)
  refine im_aload_n 570 1161 (tz_14 10 rfl) rfl ?_
  refine im_iload 571 1162 (tz_14 11 rfl) rfl ?_
  refine im_iconst 572 1164 (tz_14 12 rfl) rfl ?_
  refine im_iadd 573 1165 (tz_14 13 rfl) ?_
  refine im_sld 574 1166 hs (tz_14 14 rfl) (fun x2 => ?_)
  refine im_aload_n 575 1167 (tz_14 15 rfl) rfl ?_
  refine im_cWi (S := []) (fun _ _ hv => cpW (fr' := 8) (lo' := 181) (i := 576) (As := [.ref p1, .int x1, .int x2, .ref p3]) (S := []) (tz_14 16 rfl) lm_Z_221 mw_Z_onlyDefinition mv_Z_onlyDefinition rfl rfl rfl rfl (sp_Z_onlyDefinition G hv)) (fun x3 M1 => ?_)
  refine im_istore 577 1171 [some (.ref (st_B + 9000)), some (.ref p1), some (.ref p2), some (.ref p3), some (.int i), some (.int x3), none, none, none] rfl rfl rfl ?_
  refine im_aload_n 578 1173 (tz_14 18 rfl) rfl ?_
  refine im_aload_n 579 1174 (tz_14 19 rfl) rfl ?_
  refine im_iload 580 1175 (tz_14 20 rfl) rfl ?_
  refine im_iconst 581 1177 (tz_14 21 rfl) rfl ?_
  refine im_iadd 582 1178 (tz_14 22 rfl) ?_
  refine im_sld 583 1179 hs (tz_14 23 rfl) (fun x4 => ?_)
  refine im_aload_n 584 1180 (tz_14 24 rfl) rfl ?_
  refine im_iload 585 1181 (tz_14 25 rfl) rfl ?_
  refine im_iconst 586 1183 (tz_14 26 rfl) rfl ?_
  refine im_iadd 587 1184 (tz_14 27 rfl) ?_
  refine im_sld 588 1185 hs (tz_14 28 rfl) (fun x5 => ?_)
  refine im_cWi (S := []) (fun _ _ hv => cpV (fr' := 22) (lo' := 515) (i := 589) (As := [.int x4, .int x5]) (S := []) (a := p2) (c := 11) (tz_14 29 rfl) lk_Z_223 mw_M_onlyDefinition mv_M_onlyDefinition rfl ⟨by decide, rfl⟩ rfl rfl rfl (gd_some hv).1 (sp_M_onlyDefinition G hv)) (fun x6 M2 => ?_)
  refine im_istore 590 1189 [some (.ref (st_B + 9000)), some (.ref p1), some (.ref p2), some (.ref p3), some (.int i), some (.int x3), some (.int x6), none, none] rfl rfl rfl ?_
  refine im_aload_n 591 1191 (tz_14 31 rfl) rfl ?_
  refine im_ci (S := []) (fun _ hv => cpV (fr' := 1) (lo' := 20) (i := 592) (As := []) (S := []) (a := p2) (c := 11) (tz_14 32 rfl) lk_Z_161 mw_M_thrown mv_M_thrown rfl ⟨by decide, rfl⟩ rfl rfl rfl (gd_some hv).1 (sp_M_thrown G hv)) (fun x7 => ?_)
  refine im_iload 593 1195 (tz_14 33 rfl) rfl ?_
  refine im_ic_eq 594 1197 1202 (tz_14 34 rfl) (by decide) ?_ ?_
  · refine im_iload 597 1202 (tz_14 37 rfl) rfl ?_
    refine im_jp (fun j1219 => im_I mi_Z_law 26 601 G M0 sw_i (j1219) 1219 [some (.ref (st_B + 9000)), some (.ref p1), some (.ref p2), some (.ref p3), some (.int i), none, none, none, none] [] M2) ?_ (fun j1219 hj1219 => ?_)
    · show im_I mi_Z_law 26 601 G M0 sw_i (_) 1219 [some (.ref (st_B + 9000)), some (.ref p1), some (.ref p2), some (.ref p3), some (.int i), none, none, none, none] [] M2
      refine im_goto 608 1219 3255 (tz_15 8 rfl) (by decide) ?_
      exact im_less _ (by simp [lv_le]) (hj M2)
    refine im_if_ne 598 1204 1219 (tz_14 38 rfl) (by decide) ?_ ?_
    · exact im_less _ (by simp [lv_le]) (hj1219)
    · refine im_aload_n 599 1207 (tz_14 39 rfl) rfl ?_
      refine im_iconst 600 1208 (tz_15 0 rfl) rfl ?_
      refine im_laload 601 1209 (tz_15 1 rfl) (fun x8 => ?_)
      refine im_iload 602 1210 (tz_15 2 rfl) rfl ?_
      refine im_i2l 603 1212 (tz_15 3 rfl) ?_
      refine im_lcmp 604 1213 (tz_15 4 rfl) ?_
      refine im_if_eq 605 1214 1219 (tz_15 5 rfl) (by decide) ?_ ?_
      · exact im_less _ (by simp [lv_le]) (hj1219)
      · refine im_iconst 606 1217 (tz_15 6 rfl) rfl ?_
        exact im_end rfl (wp_zreturn 607 1218 (ty := .boolean) rfl zn_0 (tz_15 7 rfl))
  · refine im_iconst 595 1200 (tz_14 35 rfl) rfl ?_
    exact im_end rfl (wp_zreturn 596 1201 (ty := .boolean) rfl zn_0 (tz_14 36 rfl))

set_option maxRecDepth 100000 in
set_option maxHeartbeats 4000000 in
theorem li_c19 {G : gl_T} {M0 : mm_T} {n : Nat} {xs : Nat → Int32} (hs : sc_H G n xs) (p1 p2 p3 : Nat) (i : Int32) (jj : mm_T → Option (Int32 × mm_T)) (hj : ∀ N, im_I mi_Z_law 26 601 G M0 sw_i (jj N) 3255 [some (.ref (st_B + 9000)), some (.ref p1), some (.ref p2), some (.ref p3), some (.int i), none, none, none, none] [] N) (N : mm_T) : im_I mi_Z_law 26 601 G M0 sw_i (lw_c19 n xs p1 p2 p3 i jj N) 1222 [some (.ref (st_B + 9000)), some (.ref p1), some (.ref p2), some (.ref p3), some (.int i), none, none, none, none] [] N := by
  unfold lw_c19
  refine im_aload_n 609 1222 (tz_15 9 rfl) rfl ?_
  refine im_aload_n 610 1223 (tz_15 10 rfl) rfl ?_
  refine im_iload 611 1224 (tz_15 11 rfl) rfl ?_
  refine im_iconst 612 1226 (tz_15 12 rfl) rfl ?_
  refine im_iadd 613 1227 (tz_15 13 rfl) ?_
  refine im_sld 614 1228 hs (tz_15 14 rfl) (fun x1 => ?_)
  refine im_aload_n 615 1229 (tz_15 15 rfl) rfl ?_
  refine im_iload 616 1230 (tz_15 16 rfl) rfl ?_
  refine im_iconst 617 1232 (tz_15 17 rfl) rfl ?_
  refine im_iadd 618 1233 (tz_15 18 rfl) ?_
  refine im_sld 619 1234 hs (tz_15 19 rfl) (fun x2 => ?_)
  refine im_aload_n 620 1235 (tz_15 20 rfl) rfl ?_
  refine im_cWi (S := []) (fun _ _ hv => cpW (fr' := 8) (lo' := 178) (i := 621) (As := [.ref p1, .int x1, .int x2, .ref p3]) (S := []) (tz_15 21 rfl) lm_Z_224 mw_Z_isLiveIn mv_Z_isLiveIn rfl rfl rfl rfl (sp_Z_isLiveIn G hv)) (fun x3 M1 => ?_)
  refine im_istore 622 1239 [some (.ref (st_B + 9000)), some (.ref p1), some (.ref p2), some (.ref p3), some (.int i), some (.int x3), none, none, none] rfl rfl rfl ?_
  refine im_aload_n 623 1241 (tz_15 23 rfl) rfl ?_
  refine im_aload_n 624 1242 (tz_15 24 rfl) rfl ?_
  refine im_iload 625 1243 (tz_15 25 rfl) rfl ?_
  refine im_iconst 626 1245 (tz_15 26 rfl) rfl ?_
  refine im_iadd 627 1246 (tz_15 27 rfl) ?_
  refine im_sld 628 1247 hs (tz_15 28 rfl) (fun x4 => ?_)
  refine im_aload_n 629 1248 (tz_15 29 rfl) rfl ?_
  refine im_iload 630 1249 (tz_15 30 rfl) rfl ?_
  refine im_iconst 631 1251 (tz_15 31 rfl) rfl ?_
  refine im_iadd 632 1252 (tz_15 32 rfl) ?_
  refine im_sld 633 1253 hs (tz_15 33 rfl) (fun x5 => ?_)
  refine im_cWi (S := []) (fun _ _ hv => cpV (fr' := 22) (lo' := 514) (i := 634) (As := [.int x4, .int x5]) (S := []) (a := p2) (c := 11) (tz_15 34 rfl) lk_Z_226 mw_M_isLiveIn mv_M_isLiveIn rfl ⟨by decide, rfl⟩ rfl rfl rfl (gd_some hv).1 (sp_M_isLiveIn G hv)) (fun x6 M2 => ?_)
  refine im_istore 635 1257 [some (.ref (st_B + 9000)), some (.ref p1), some (.ref p2), some (.ref p3), some (.int i), some (.int x3), some (.int x6), none, none] rfl rfl rfl ?_
  refine im_aload_n 636 1259 (tz_15 36 rfl) rfl ?_
  refine im_ci (S := []) (fun _ hv => cpV (fr' := 1) (lo' := 20) (i := 637) (As := []) (S := []) (a := p2) (c := 11) (tz_15 37 rfl) lk_Z_161 mw_M_thrown mv_M_thrown rfl ⟨by decide, rfl⟩ rfl rfl rfl (gd_some hv).1 (sp_M_thrown G hv)) (fun x7 => ?_)
  refine im_iload 638 1263 (tz_15 38 rfl) rfl ?_
  refine im_ic_eq 639 1265 1270 (tz_15 39 rfl) (by decide) ?_ ?_
  · refine im_iload 642 1270 (tz_16 2 rfl) rfl ?_
    refine im_jp (fun j1294 => im_I mi_Z_law 26 601 G M0 sw_i (j1294) 1294 [some (.ref (st_B + 9000)), some (.ref p1), some (.ref p2), some (.ref p3), some (.int i), none, none, none, none] [] M2) ?_ (fun j1294 hj1294 => ?_)
    · show im_I mi_Z_law 26 601 G M0 sw_i (_) 1294 [some (.ref (st_B + 9000)), some (.ref p1), some (.ref p2), some (.ref p3), some (.int i), none, none, none, none] [] M2
      refine im_goto 656 1294 3255 (tz_16 16 rfl) (by decide) ?_
      exact im_less _ (by simp [lv_le]) (hj M2)
    refine im_if_ne 643 1272 1294 (tz_16 3 rfl) (by decide) ?_ ?_
    · exact im_less _ (by simp [lv_le]) (hj1294)
    · refine im_aload_n 644 1275 (tz_16 4 rfl) rfl ?_
      refine im_iconst 645 1276 (tz_16 5 rfl) rfl ?_
      refine im_laload 646 1277 (tz_16 6 rfl) (fun x8 => ?_)
      refine im_iload 647 1278 (tz_16 7 rfl) rfl ?_
      refine im_jp (fun j1288 => ∀ (x9 : Int64), im_I mi_Z_law 26 601 G M0 sw_i (j1288 x9) 1288 [some (.ref (st_B + 9000)), some (.ref p1), some (.ref p2), some (.ref p3), some (.int i), none, none, none, none] [.long x9, .long x8] M2) ?_ (fun j1288 hj1288 => ?_)
      · intro x9
        show im_I mi_Z_law 26 601 G M0 sw_i (_) 1288 [some (.ref (st_B + 9000)), some (.ref p1), some (.ref p2), some (.ref p3), some (.int i), none, none, none, none] [.long x9, .long x8] M2
        refine im_lcmp 652 1288 (tz_16 12 rfl) ?_
        refine im_if_eq 653 1289 1294 (tz_16 13 rfl) (by decide) ?_ ?_
        · exact im_less _ (by simp [lv_le]) (hj1294)
        · refine im_iconst 654 1292 (tz_16 14 rfl) rfl ?_
          exact im_end rfl (wp_zreturn 655 1293 (ty := .boolean) rfl zn_0 (tz_16 15 rfl))
      refine im_if_eq 648 1280 1287 (tz_16 8 rfl) (by decide) ?_ ?_
      · refine im_lconst 651 1287 (tz_16 11 rfl) rfl ?_
        exact im_less _ (by simp [lv_le]) (hj1288 (0 : Int64))
      · refine im_lconst 649 1283 (tz_16 9 rfl) rfl ?_
        refine im_goto 650 1284 1288 (tz_16 10 rfl) (by decide) ?_
        exact im_less _ (by simp [lv_le]) (hj1288 (1 : Int64))
  · refine im_iconst 640 1268 (tz_16 0 rfl) rfl ?_
    exact im_end rfl (wp_zreturn 641 1269 (ty := .boolean) rfl zn_0 (tz_16 1 rfl))

set_option maxRecDepth 100000 in
set_option maxHeartbeats 4000000 in
theorem li_c20 {G : gl_T} {M0 : mm_T} {n : Nat} {xs : Nat → Int32} (hs : sc_H G n xs) (p1 p2 p3 : Nat) (i : Int32) (jj : mm_T → Option (Int32 × mm_T)) (hj : ∀ N, im_I mi_Z_law 26 601 G M0 sw_i (jj N) 3255 [some (.ref (st_B + 9000)), some (.ref p1), some (.ref p2), some (.ref p3), some (.int i), none, none, none, none] [] N) (N : mm_T) : im_I mi_Z_law 26 601 G M0 sw_i (lw_c20 n xs p1 p2 p3 i jj N) 1297 [some (.ref (st_B + 9000)), some (.ref p1), some (.ref p2), some (.ref p3), some (.int i), none, none, none, none] [] N := by
  unfold lw_c20
  refine im_aload_n 657 1297 (tz_16 17 rfl) rfl ?_
  refine im_aload_n 658 1298 (tz_16 18 rfl) rfl ?_
  refine im_iload 659 1299 (tz_16 19 rfl) rfl ?_
  refine im_iconst 660 1301 (tz_16 20 rfl) rfl ?_
  refine im_iadd 661 1302 (tz_16 21 rfl) ?_
  refine im_sld 662 1303 hs (tz_16 22 rfl) (fun x1 => ?_)
  refine im_aload_n 663 1304 (tz_16 23 rfl) rfl ?_
  refine im_iload 664 1305 (tz_16 24 rfl) rfl ?_
  refine im_iconst 665 1307 (tz_16 25 rfl) rfl ?_
  refine im_iadd 666 1308 (tz_16 26 rfl) ?_
  refine im_sld 667 1309 hs (tz_16 27 rfl) (fun x2 => ?_)
  refine im_aload_n 668 1310 (tz_16 28 rfl) rfl ?_
  refine im_cWi (S := []) (fun _ _ hv => cpW (fr' := 8) (lo' := 178) (i := 669) (As := [.ref p1, .int x1, .int x2, .ref p3]) (S := []) (tz_16 29 rfl) lm_Z_227 mw_Z_isLiveOut mv_Z_isLiveOut rfl rfl rfl rfl (sp_Z_isLiveOut G hv)) (fun x3 M1 => ?_)
  refine im_istore 670 1314 [some (.ref (st_B + 9000)), some (.ref p1), some (.ref p2), some (.ref p3), some (.int i), some (.int x3), none, none, none] rfl rfl rfl ?_
  refine im_aload_n 671 1316 (tz_16 31 rfl) rfl ?_
  refine im_aload_n 672 1317 (tz_16 32 rfl) rfl ?_
  refine im_iload 673 1318 (tz_16 33 rfl) rfl ?_
  refine im_iconst 674 1320 (tz_16 34 rfl) rfl ?_
  refine im_iadd 675 1321 (tz_16 35 rfl) ?_
  refine im_sld 676 1322 hs (tz_16 36 rfl) (fun x4 => ?_)
  refine im_aload_n 677 1323 (tz_16 37 rfl) rfl ?_
  refine im_iload 678 1324 (tz_16 38 rfl) rfl ?_
  refine im_iconst 679 1326 (tz_16 39 rfl) rfl ?_
  refine im_iadd 680 1327 (tz_17 0 rfl) ?_
  refine im_sld 681 1328 hs (tz_17 1 rfl) (fun x5 => ?_)
  refine im_cWi (S := []) (fun _ _ hv => cpV (fr' := 21) (lo' := 490) (i := 682) (As := [.int x4, .int x5]) (S := []) (a := p2) (c := 11) (tz_17 2 rfl) lk_Z_229 mw_M_isLiveOut mv_M_isLiveOut rfl ⟨by decide, rfl⟩ rfl rfl rfl (gd_some hv).1 (sp_M_isLiveOut G hv)) (fun x6 M2 => ?_)
  refine im_istore 683 1332 [some (.ref (st_B + 9000)), some (.ref p1), some (.ref p2), some (.ref p3), some (.int i), some (.int x3), some (.int x6), none, none] rfl rfl rfl ?_
  refine im_aload_n 684 1334 (tz_17 4 rfl) rfl ?_
  refine im_ci (S := []) (fun _ hv => cpV (fr' := 1) (lo' := 20) (i := 685) (As := []) (S := []) (a := p2) (c := 11) (tz_17 5 rfl) lk_Z_161 mw_M_thrown mv_M_thrown rfl ⟨by decide, rfl⟩ rfl rfl rfl (gd_some hv).1 (sp_M_thrown G hv)) (fun x7 => ?_)
  refine im_iload 686 1338 (tz_17 6 rfl) rfl ?_
  refine im_ic_eq 687 1340 1345 (tz_17 7 rfl) (by decide) ?_ ?_
  · refine im_iload 690 1345 (tz_17 10 rfl) rfl ?_
    refine im_jp (fun j1369 => im_I mi_Z_law 26 601 G M0 sw_i (j1369) 1369 [some (.ref (st_B + 9000)), some (.ref p1), some (.ref p2), some (.ref p3), some (.int i), none, none, none, none] [] M2) ?_ (fun j1369 hj1369 => ?_)
    · show im_I mi_Z_law 26 601 G M0 sw_i (_) 1369 [some (.ref (st_B + 9000)), some (.ref p1), some (.ref p2), some (.ref p3), some (.int i), none, none, none, none] [] M2
      refine im_goto 704 1369 3255 (tz_17 24 rfl) (by decide) ?_
      exact im_less _ (by simp [lv_le]) (hj M2)
    refine im_if_ne 691 1347 1369 (tz_17 11 rfl) (by decide) ?_ ?_
    · exact im_less _ (by simp [lv_le]) (hj1369)
    · refine im_aload_n 692 1350 (tz_17 12 rfl) rfl ?_
      refine im_iconst 693 1351 (tz_17 13 rfl) rfl ?_
      refine im_laload 694 1352 (tz_17 14 rfl) (fun x8 => ?_)
      refine im_iload 695 1353 (tz_17 15 rfl) rfl ?_
      refine im_jp (fun j1363 => ∀ (x9 : Int64), im_I mi_Z_law 26 601 G M0 sw_i (j1363 x9) 1363 [some (.ref (st_B + 9000)), some (.ref p1), some (.ref p2), some (.ref p3), some (.int i), none, none, none, none] [.long x9, .long x8] M2) ?_ (fun j1363 hj1363 => ?_)
      · intro x9
        show im_I mi_Z_law 26 601 G M0 sw_i (_) 1363 [some (.ref (st_B + 9000)), some (.ref p1), some (.ref p2), some (.ref p3), some (.int i), none, none, none, none] [.long x9, .long x8] M2
        refine im_lcmp 700 1363 (tz_17 20 rfl) ?_
        refine im_if_eq 701 1364 1369 (tz_17 21 rfl) (by decide) ?_ ?_
        · exact im_less _ (by simp [lv_le]) (hj1369)
        · refine im_iconst 702 1367 (tz_17 22 rfl) rfl ?_
          exact im_end rfl (wp_zreturn 703 1368 (ty := .boolean) rfl zn_0 (tz_17 23 rfl))
      refine im_if_eq 696 1355 1362 (tz_17 16 rfl) (by decide) ?_ ?_
      · refine im_lconst 699 1362 (tz_17 19 rfl) rfl ?_
        exact im_less _ (by simp [lv_le]) (hj1363 (0 : Int64))
      · refine im_lconst 697 1358 (tz_17 17 rfl) rfl ?_
        refine im_goto 698 1359 1363 (tz_17 18 rfl) (by decide) ?_
        exact im_less _ (by simp [lv_le]) (hj1363 (1 : Int64))
  · refine im_iconst 688 1343 (tz_17 8 rfl) rfl ?_
    exact im_end rfl (wp_zreturn 689 1344 (ty := .boolean) rfl zn_0 (tz_17 9 rfl))

set_option maxRecDepth 100000 in
set_option maxHeartbeats 4000000 in
theorem li_c21 {G : gl_T} {M0 : mm_T} {n : Nat} {xs : Nat → Int32} (hs : sc_H G n xs) (p1 p2 p3 : Nat) (i : Int32) (jj : mm_T → Option (Int32 × mm_T)) (hj : ∀ N, im_I mi_Z_law 26 601 G M0 sw_i (jj N) 3255 [some (.ref (st_B + 9000)), some (.ref p1), some (.ref p2), some (.ref p3), some (.int i), none, none, none, none] [] N) (N : mm_T) : im_I mi_Z_law 26 601 G M0 sw_i (lw_c21 n xs p1 p2 p3 i jj N) 1372 [some (.ref (st_B + 9000)), some (.ref p1), some (.ref p2), some (.ref p3), some (.int i), none, none, none, none] [] N := by
  unfold lw_c21
  refine im_aload_n 705 1372 (tz_17 25 rfl) rfl ?_
  refine im_aload_n 706 1373 (tz_17 26 rfl) rfl ?_
  refine im_iload 707 1374 (tz_17 27 rfl) rfl ?_
  refine im_iconst 708 1376 (tz_17 28 rfl) rfl ?_
  refine im_iadd 709 1377 (tz_17 29 rfl) ?_
  refine im_sld 710 1378 hs (tz_17 30 rfl) (fun x1 => ?_)
  refine im_aload_n 711 1379 (tz_17 31 rfl) rfl ?_
  refine im_cWi (S := []) (fun _ _ hv => cpW (fr' := 8) (lo' := 177) (i := 712) (As := [.ref p1, .int x1, .ref p3]) (S := []) (tz_17 32 rfl) lm_Z_230 mw_Z_liveBefore mv_Z_liveBefore rfl rfl rfl rfl (sp_Z_liveBefore G hv)) (fun x2 M1 => ?_)
  refine im_istore 713 1383 [some (.ref (st_B + 9000)), some (.ref p1), some (.ref p2), some (.ref p3), some (.int i), some (.int x2), none, none, none] rfl rfl rfl ?_
  refine im_aload_n 714 1385 (tz_17 34 rfl) rfl ?_
  refine im_aload_n 715 1386 (tz_17 35 rfl) rfl ?_
  refine im_iload 716 1387 (tz_17 36 rfl) rfl ?_
  refine im_iconst 717 1389 (tz_17 37 rfl) rfl ?_
  refine im_iadd 718 1390 (tz_17 38 rfl) ?_
  refine im_sld 719 1391 hs (tz_17 39 rfl) (fun x3 => ?_)
  refine im_cWi (S := []) (fun _ _ hv => cpV (fr' := 23) (lo' := 538) (i := 720) (As := [.int x3]) (S := []) (a := p2) (c := 11) (tz_18 0 rfl) lk_Z_232 mw_M_liveBefore mv_M_liveBefore rfl ⟨by decide, rfl⟩ rfl rfl rfl (gd_some hv).1 (sp_M_liveBefore G hv)) (fun x4 M2 => ?_)
  refine im_istore 721 1395 [some (.ref (st_B + 9000)), some (.ref p1), some (.ref p2), some (.ref p3), some (.int i), some (.int x2), some (.int x4), none, none] rfl rfl rfl ?_
  refine im_aload_n 722 1397 (tz_18 2 rfl) rfl ?_
  refine im_ci (S := []) (fun _ hv => cpV (fr' := 1) (lo' := 20) (i := 723) (As := []) (S := []) (a := p2) (c := 11) (tz_18 3 rfl) lk_Z_161 mw_M_thrown mv_M_thrown rfl ⟨by decide, rfl⟩ rfl rfl rfl (gd_some hv).1 (sp_M_thrown G hv)) (fun x5 => ?_)
  refine im_iload 724 1401 (tz_18 4 rfl) rfl ?_
  refine im_ic_eq 725 1403 1408 (tz_18 5 rfl) (by decide) ?_ ?_
  · refine im_iload 728 1408 (tz_18 8 rfl) rfl ?_
    refine im_jp (fun j1425 => im_I mi_Z_law 26 601 G M0 sw_i (j1425) 1425 [some (.ref (st_B + 9000)), some (.ref p1), some (.ref p2), some (.ref p3), some (.int i), none, none, none, none] [] M2) ?_ (fun j1425 hj1425 => ?_)
    · show im_I mi_Z_law 26 601 G M0 sw_i (_) 1425 [some (.ref (st_B + 9000)), some (.ref p1), some (.ref p2), some (.ref p3), some (.int i), none, none, none, none] [] M2
      refine im_goto 739 1425 3255 (tz_18 19 rfl) (by decide) ?_
      exact im_less _ (by simp [lv_le]) (hj M2)
    refine im_if_ne 729 1410 1425 (tz_18 9 rfl) (by decide) ?_ ?_
    · exact im_less _ (by simp [lv_le]) (hj1425)
    · refine im_aload_n 730 1413 (tz_18 10 rfl) rfl ?_
      refine im_iconst 731 1414 (tz_18 11 rfl) rfl ?_
      refine im_laload 732 1415 (tz_18 12 rfl) (fun x6 => ?_)
      refine im_iload 733 1416 (tz_18 13 rfl) rfl ?_
      refine im_i2l 734 1418 (tz_18 14 rfl) ?_
      refine im_lcmp 735 1419 (tz_18 15 rfl) ?_
      refine im_if_eq 736 1420 1425 (tz_18 16 rfl) (by decide) ?_ ?_
      · exact im_less _ (by simp [lv_le]) (hj1425)
      · refine im_iconst 737 1423 (tz_18 17 rfl) rfl ?_
        exact im_end rfl (wp_zreturn 738 1424 (ty := .boolean) rfl zn_0 (tz_18 18 rfl))
  · refine im_iconst 726 1406 (tz_18 6 rfl) rfl ?_
    exact im_end rfl (wp_zreturn 727 1407 (ty := .boolean) rfl zn_0 (tz_18 7 rfl))

set_option maxRecDepth 100000 in
set_option maxHeartbeats 4000000 in
theorem li_c22 {G : gl_T} {M0 : mm_T} {n : Nat} {xs : Nat → Int32} (hs : sc_H G n xs) (p1 p2 p3 : Nat) (i : Int32) (jj : mm_T → Option (Int32 × mm_T)) (hj : ∀ N, im_I mi_Z_law 26 601 G M0 sw_i (jj N) 3255 [some (.ref (st_B + 9000)), some (.ref p1), some (.ref p2), some (.ref p3), some (.int i), none, none, none, none] [] N) (N : mm_T) : im_I mi_Z_law 26 601 G M0 sw_i (lw_c22 n xs p1 p2 p3 i jj N) 1428 [some (.ref (st_B + 9000)), some (.ref p1), some (.ref p2), some (.ref p3), some (.int i), none, none, none, none] [] N := by
  unfold lw_c22
  refine im_aload_n 740 1428 (tz_18 20 rfl) rfl ?_
  refine im_aload_n 741 1429 (tz_18 21 rfl) rfl ?_
  refine im_iload 742 1430 (tz_18 22 rfl) rfl ?_
  refine im_iconst 743 1432 (tz_18 23 rfl) rfl ?_
  refine im_iadd 744 1433 (tz_18 24 rfl) ?_
  refine im_sld 745 1434 hs (tz_18 25 rfl) (fun x1 => ?_)
  refine im_aload_n 746 1435 (tz_18 26 rfl) rfl ?_
  refine im_cWi (S := []) (fun _ _ hv => cpW (fr' := 8) (lo' := 177) (i := 747) (As := [.ref p1, .int x1, .ref p3]) (S := []) (tz_18 27 rfl) lm_Z_233 mw_Z_isDead mv_Z_isDead rfl rfl rfl rfl (sp_Z_isDead G hv)) (fun x2 M1 => ?_)
  refine im_istore 748 1439 [some (.ref (st_B + 9000)), some (.ref p1), some (.ref p2), some (.ref p3), some (.int i), some (.int x2), none, none, none] rfl rfl rfl ?_
  refine im_aload_n 749 1441 (tz_18 29 rfl) rfl ?_
  refine im_aload_n 750 1442 (tz_18 30 rfl) rfl ?_
  refine im_iload 751 1443 (tz_18 31 rfl) rfl ?_
  refine im_iconst 752 1445 (tz_18 32 rfl) rfl ?_
  refine im_iadd 753 1446 (tz_18 33 rfl) ?_
  refine im_sld 754 1447 hs (tz_18 34 rfl) (fun x3 => ?_)
  refine im_cWi (S := []) (fun _ _ hv => cpV (fr' := 23) (lo' := 535) (i := 755) (As := [.int x3]) (S := []) (a := p2) (c := 11) (tz_18 35 rfl) lk_Z_235 mw_M_isDead mv_M_isDead rfl ⟨by decide, rfl⟩ rfl rfl rfl (gd_some hv).1 (sp_M_isDead G hv)) (fun x4 M2 => ?_)
  refine im_istore 756 1451 [some (.ref (st_B + 9000)), some (.ref p1), some (.ref p2), some (.ref p3), some (.int i), some (.int x2), some (.int x4), none, none] rfl rfl rfl ?_
  refine im_aload_n 757 1453 (tz_18 37 rfl) rfl ?_
  refine im_ci (S := []) (fun _ hv => cpV (fr' := 1) (lo' := 20) (i := 758) (As := []) (S := []) (a := p2) (c := 11) (tz_18 38 rfl) lk_Z_161 mw_M_thrown mv_M_thrown rfl ⟨by decide, rfl⟩ rfl rfl rfl (gd_some hv).1 (sp_M_thrown G hv)) (fun x5 => ?_)
  refine im_iload 759 1457 (tz_18 39 rfl) rfl ?_
  refine im_ic_eq 760 1459 1464 (tz_19 0 rfl) (by decide) ?_ ?_
  · refine im_iload 763 1464 (tz_19 3 rfl) rfl ?_
    refine im_jp (fun j1488 => im_I mi_Z_law 26 601 G M0 sw_i (j1488) 1488 [some (.ref (st_B + 9000)), some (.ref p1), some (.ref p2), some (.ref p3), some (.int i), none, none, none, none] [] M2) ?_ (fun j1488 hj1488 => ?_)
    · show im_I mi_Z_law 26 601 G M0 sw_i (_) 1488 [some (.ref (st_B + 9000)), some (.ref p1), some (.ref p2), some (.ref p3), some (.int i), none, none, none, none] [] M2
      refine im_goto 777 1488 3255 (tz_19 17 rfl) (by decide) ?_
      exact im_less _ (by simp [lv_le]) (hj M2)
    refine im_if_ne 764 1466 1488 (tz_19 4 rfl) (by decide) ?_ ?_
    · exact im_less _ (by simp [lv_le]) (hj1488)
    · refine im_aload_n 765 1469 (tz_19 5 rfl) rfl ?_
      refine im_iconst 766 1470 (tz_19 6 rfl) rfl ?_
      refine im_laload 767 1471 (tz_19 7 rfl) (fun x6 => ?_)
      refine im_iload 768 1472 (tz_19 8 rfl) rfl ?_
      refine im_jp (fun j1482 => ∀ (x7 : Int64), im_I mi_Z_law 26 601 G M0 sw_i (j1482 x7) 1482 [some (.ref (st_B + 9000)), some (.ref p1), some (.ref p2), some (.ref p3), some (.int i), none, none, none, none] [.long x7, .long x6] M2) ?_ (fun j1482 hj1482 => ?_)
      · intro x7
        show im_I mi_Z_law 26 601 G M0 sw_i (_) 1482 [some (.ref (st_B + 9000)), some (.ref p1), some (.ref p2), some (.ref p3), some (.int i), none, none, none, none] [.long x7, .long x6] M2
        refine im_lcmp 773 1482 (tz_19 13 rfl) ?_
        refine im_if_eq 774 1483 1488 (tz_19 14 rfl) (by decide) ?_ ?_
        · exact im_less _ (by simp [lv_le]) (hj1488)
        · refine im_iconst 775 1486 (tz_19 15 rfl) rfl ?_
          exact im_end rfl (wp_zreturn 776 1487 (ty := .boolean) rfl zn_0 (tz_19 16 rfl))
      refine im_if_eq 769 1474 1481 (tz_19 9 rfl) (by decide) ?_ ?_
      · refine im_lconst 772 1481 (tz_19 12 rfl) rfl ?_
        exact im_less _ (by simp [lv_le]) (hj1482 (0 : Int64))
      · refine im_lconst 770 1477 (tz_19 10 rfl) rfl ?_
        refine im_goto 771 1478 1482 (tz_19 11 rfl) (by decide) ?_
        exact im_less _ (by simp [lv_le]) (hj1482 (1 : Int64))
  · refine im_iconst 761 1462 (tz_19 1 rfl) rfl ?_
    exact im_end rfl (wp_zreturn 762 1463 (ty := .boolean) rfl zn_0 (tz_19 2 rfl))

set_option maxRecDepth 100000 in
set_option maxHeartbeats 4000000 in
theorem li_c23 {G : gl_T} {M0 : mm_T} {n : Nat} {xs : Nat → Int32} (hs : sc_H G n xs) (p1 p2 p3 : Nat) (i : Int32) (jj : mm_T → Option (Int32 × mm_T)) (hj : ∀ N, im_I mi_Z_law 26 601 G M0 sw_i (jj N) 3255 [some (.ref (st_B + 9000)), some (.ref p1), some (.ref p2), some (.ref p3), some (.int i), none, none, none, none] [] N) (N : mm_T) : im_I mi_Z_law 26 601 G M0 sw_i (lw_c23 n xs p1 p2 p3 i jj N) 1491 [some (.ref (st_B + 9000)), some (.ref p1), some (.ref p2), some (.ref p3), some (.int i), none, none, none, none] [] N := by
  unfold lw_c23
  refine im_aload_n 778 1491 (tz_19 18 rfl) rfl ?_
  refine im_cWi (S := []) (fun _ _ hv => cpV (fr' := 7) (lo' := 156) (i := 779) (As := []) (S := []) (a := p1) (c := 10) (tz_19 19 rfl) lk_Z_236 mw_D_deadDefinitions mv_D_deadDefinitions rfl ⟨by decide, rfl⟩ rfl rfl rfl (gd_some hv).1 (sp_D_deadDefinitions G hv)) (fun x1 M1 => ?_)
  refine im_aload_n 780 1495 (tz_19 20 rfl) rfl ?_
  refine im_cWi (S := [.int x1]) (fun _ _ hv => cpV (fr' := 24) (lo' := 557) (i := 781) (As := []) (S := [.int x1]) (a := p2) (c := 11) (tz_19 21 rfl) lk_Z_239 mw_M_deadDefinitions mv_M_deadDefinitions rfl ⟨by decide, rfl⟩ rfl rfl rfl (gd_some hv).1 (sp_M_deadDefinitions G hv)) (fun x2 M2 => ?_)
  refine im_ic_eq 782 1499 3255 (tz_19 22 rfl) (by decide) ?_ ?_
  · exact im_less _ (by simp [lv_le]) (hj M2)
  · refine im_iconst 783 1502 (tz_19 23 rfl) rfl ?_
    exact im_end rfl (wp_zreturn 784 1503 (ty := .boolean) rfl zn_0 (tz_19 24 rfl))

set_option maxRecDepth 100000 in
set_option maxHeartbeats 4000000 in
theorem li_c24 {G : gl_T} {M0 : mm_T} {n : Nat} {xs : Nat → Int32} (hs : sc_H G n xs) (p1 p2 p3 : Nat) (i : Int32) (jj : mm_T → Option (Int32 × mm_T)) (hj : ∀ N, im_I mi_Z_law 26 601 G M0 sw_i (jj N) 3255 [some (.ref (st_B + 9000)), some (.ref p1), some (.ref p2), some (.ref p3), some (.int i), none, none, none, none] [] N) (N : mm_T) : im_I mi_Z_law 26 601 G M0 sw_i (lw_c24 n xs p1 p2 p3 i jj N) 1504 [some (.ref (st_B + 9000)), some (.ref p1), some (.ref p2), some (.ref p3), some (.int i), none, none, none, none] [] N := by
  unfold lw_c24
  refine im_aload_n 785 1504 (tz_19 25 rfl) rfl ?_
  refine im_cWi (S := []) (fun _ _ hv => cpV (fr' := 7) (lo' := 156) (i := 786) (As := []) (S := []) (a := p1) (c := 10) (tz_19 26 rfl) lk_Z_240 mw_D_pressure mv_D_pressure rfl ⟨by decide, rfl⟩ rfl rfl rfl (gd_some hv).1 (sp_D_pressure G hv)) (fun x1 M1 => ?_)
  refine im_aload_n 787 1508 (tz_19 27 rfl) rfl ?_
  refine im_cWi (S := [.int x1]) (fun _ _ hv => cpV (fr' := 23) (lo' := 538) (i := 788) (As := []) (S := [.int x1]) (a := p2) (c := 11) (tz_19 28 rfl) lk_Z_243 mw_M_pressure mv_M_pressure rfl ⟨by decide, rfl⟩ rfl rfl rfl (gd_some hv).1 (sp_M_pressure G hv)) (fun x2 M2 => ?_)
  refine im_ic_eq 789 1512 3255 (tz_19 29 rfl) (by decide) ?_ ?_
  · exact im_less _ (by simp [lv_le]) (hj M2)
  · refine im_iconst 790 1515 (tz_19 30 rfl) rfl ?_
    exact im_end rfl (wp_zreturn 791 1516 (ty := .boolean) rfl zn_0 (tz_19 31 rfl))

set_option maxRecDepth 100000 in
set_option maxHeartbeats 4000000 in
theorem li_c25 {G : gl_T} {M0 : mm_T} {n : Nat} {xs : Nat → Int32} (hs : sc_H G n xs) (p1 p2 p3 : Nat) (i : Int32) (jj : mm_T → Option (Int32 × mm_T)) (hj : ∀ N, im_I mi_Z_law 26 601 G M0 sw_i (jj N) 3255 [some (.ref (st_B + 9000)), some (.ref p1), some (.ref p2), some (.ref p3), some (.int i), none, none, none, none] [] N) (N : mm_T) : im_I mi_Z_law 26 601 G M0 sw_i (lw_c25 n xs p1 p2 p3 i jj N) 1517 [some (.ref (st_B + 9000)), some (.ref p1), some (.ref p2), some (.ref p3), some (.int i), none, none, none, none] [] N := by
  unfold lw_c25
  refine im_aload_n 792 1517 (tz_19 32 rfl) rfl ?_
  refine im_aload_n 793 1518 (tz_19 33 rfl) rfl ?_
  refine im_iload 794 1519 (tz_19 34 rfl) rfl ?_
  refine im_iconst 795 1521 (tz_19 35 rfl) rfl ?_
  refine im_iadd 796 1522 (tz_19 36 rfl) ?_
  refine im_sld 797 1523 hs (tz_19 37 rfl) (fun x1 => ?_)
  refine im_aload_n 798 1524 (tz_19 38 rfl) rfl ?_
  refine im_iload 799 1525 (tz_19 39 rfl) rfl ?_
  refine im_iconst 800 1527 (tz_20 0 rfl) rfl ?_
  refine im_iadd 801 1528 (tz_20 1 rfl) ?_
  refine im_sld 802 1529 hs (tz_20 2 rfl) (fun x2 => ?_)
  refine im_aload_n 803 1530 (tz_20 3 rfl) rfl ?_
  refine im_cWi (S := []) (fun _ _ hv => cpW (fr' := 8) (lo' := 178) (i := 804) (As := [.ref p1, .int x1, .int x2, .ref p3]) (S := []) (tz_20 4 rfl) lm_Z_244 mw_Z_interfere mv_Z_interfere rfl rfl rfl rfl (sp_Z_interfere G hv)) (fun x3 M1 => ?_)
  refine im_istore 805 1534 [some (.ref (st_B + 9000)), some (.ref p1), some (.ref p2), some (.ref p3), some (.int i), some (.int x3), none, none, none] rfl rfl rfl ?_
  refine im_aload_n 806 1536 (tz_20 6 rfl) rfl ?_
  refine im_aload_n 807 1537 (tz_20 7 rfl) rfl ?_
  refine im_iload 808 1538 (tz_20 8 rfl) rfl ?_
  refine im_iconst 809 1540 (tz_20 9 rfl) rfl ?_
  refine im_iadd 810 1541 (tz_20 10 rfl) ?_
  refine im_sld 811 1542 hs (tz_20 11 rfl) (fun x4 => ?_)
  refine im_aload_n 812 1543 (tz_20 12 rfl) rfl ?_
  refine im_iload 813 1544 (tz_20 13 rfl) rfl ?_
  refine im_iconst 814 1546 (tz_20 14 rfl) rfl ?_
  refine im_iadd 815 1547 (tz_20 15 rfl) ?_
  refine im_sld 816 1548 hs (tz_20 16 rfl) (fun x5 => ?_)
  refine im_cWi (S := []) (fun _ _ hv => cpV (fr' := 23) (lo' := 537) (i := 817) (As := [.int x4, .int x5]) (S := []) (a := p2) (c := 11) (tz_20 17 rfl) lk_Z_246 mw_M_interfere mv_M_interfere rfl ⟨by decide, rfl⟩ rfl rfl rfl (gd_some hv).1 (sp_M_interfere G hv)) (fun x6 M2 => ?_)
  refine im_istore 818 1552 [some (.ref (st_B + 9000)), some (.ref p1), some (.ref p2), some (.ref p3), some (.int i), some (.int x3), some (.int x6), none, none] rfl rfl rfl ?_
  refine im_aload_n 819 1554 (tz_20 19 rfl) rfl ?_
  refine im_ci (S := []) (fun _ hv => cpV (fr' := 1) (lo' := 20) (i := 820) (As := []) (S := []) (a := p2) (c := 11) (tz_20 20 rfl) lk_Z_161 mw_M_thrown mv_M_thrown rfl ⟨by decide, rfl⟩ rfl rfl rfl (gd_some hv).1 (sp_M_thrown G hv)) (fun x7 => ?_)
  refine im_iload 821 1558 (tz_20 21 rfl) rfl ?_
  refine im_ic_eq 822 1560 1565 (tz_20 22 rfl) (by decide) ?_ ?_
  · refine im_iload 825 1565 (tz_20 25 rfl) rfl ?_
    refine im_jp (fun j1589 => im_I mi_Z_law 26 601 G M0 sw_i (j1589) 1589 [some (.ref (st_B + 9000)), some (.ref p1), some (.ref p2), some (.ref p3), some (.int i), none, none, none, none] [] M2) ?_ (fun j1589 hj1589 => ?_)
    · show im_I mi_Z_law 26 601 G M0 sw_i (_) 1589 [some (.ref (st_B + 9000)), some (.ref p1), some (.ref p2), some (.ref p3), some (.int i), none, none, none, none] [] M2
      refine im_goto 839 1589 3255 (tz_20 39 rfl) (by decide) ?_
      exact im_less _ (by simp [lv_le]) (hj M2)
    refine im_if_ne 826 1567 1589 (tz_20 26 rfl) (by decide) ?_ ?_
    · exact im_less _ (by simp [lv_le]) (hj1589)
    · refine im_aload_n 827 1570 (tz_20 27 rfl) rfl ?_
      refine im_iconst 828 1571 (tz_20 28 rfl) rfl ?_
      refine im_laload 829 1572 (tz_20 29 rfl) (fun x8 => ?_)
      refine im_iload 830 1573 (tz_20 30 rfl) rfl ?_
      refine im_jp (fun j1583 => ∀ (x9 : Int64), im_I mi_Z_law 26 601 G M0 sw_i (j1583 x9) 1583 [some (.ref (st_B + 9000)), some (.ref p1), some (.ref p2), some (.ref p3), some (.int i), none, none, none, none] [.long x9, .long x8] M2) ?_ (fun j1583 hj1583 => ?_)
      · intro x9
        show im_I mi_Z_law 26 601 G M0 sw_i (_) 1583 [some (.ref (st_B + 9000)), some (.ref p1), some (.ref p2), some (.ref p3), some (.int i), none, none, none, none] [.long x9, .long x8] M2
        refine im_lcmp 835 1583 (tz_20 35 rfl) ?_
        refine im_if_eq 836 1584 1589 (tz_20 36 rfl) (by decide) ?_ ?_
        · exact im_less _ (by simp [lv_le]) (hj1589)
        · refine im_iconst 837 1587 (tz_20 37 rfl) rfl ?_
          exact im_end rfl (wp_zreturn 838 1588 (ty := .boolean) rfl zn_0 (tz_20 38 rfl))
      refine im_if_eq 831 1575 1582 (tz_20 31 rfl) (by decide) ?_ ?_
      · refine im_lconst 834 1582 (tz_20 34 rfl) rfl ?_
        exact im_less _ (by simp [lv_le]) (hj1583 (0 : Int64))
      · refine im_lconst 832 1578 (tz_20 32 rfl) rfl ?_
        refine im_goto 833 1579 1583 (tz_20 33 rfl) (by decide) ?_
        exact im_less _ (by simp [lv_le]) (hj1583 (1 : Int64))
  · refine im_iconst 823 1563 (tz_20 23 rfl) rfl ?_
    exact im_end rfl (wp_zreturn 824 1564 (ty := .boolean) rfl zn_0 (tz_20 24 rfl))

set_option maxRecDepth 100000 in
set_option maxHeartbeats 4000000 in
theorem li_c26 {G : gl_T} {M0 : mm_T} {n : Nat} {xs : Nat → Int32} (hs : sc_H G n xs) (p1 p2 p3 : Nat) (i : Int32) (jj : mm_T → Option (Int32 × mm_T)) (hj : ∀ N, im_I mi_Z_law 26 601 G M0 sw_i (jj N) 3255 [some (.ref (st_B + 9000)), some (.ref p1), some (.ref p2), some (.ref p3), some (.int i), none, none, none, none] [] N) (N : mm_T) : im_I mi_Z_law 26 601 G M0 sw_i (lw_c26 n xs p1 p2 p3 i jj N) 1592 [some (.ref (st_B + 9000)), some (.ref p1), some (.ref p2), some (.ref p3), some (.int i), none, none, none, none] [] N := by
  unfold lw_c26
  refine im_aload_n 840 1592 (tz_21 0 rfl) rfl ?_
  refine im_cWi (S := []) (fun _ _ hv => cpV (fr' := 7) (lo' := 161) (i := 841) (As := []) (S := []) (a := p1) (c := 10) (tz_21 1 rfl) lk_Z_247 mw_D_expressionCount mv_D_expressionCount rfl ⟨by decide, rfl⟩ rfl rfl rfl (gd_some hv).1 (sp_D_expressionCount G hv)) (fun x1 M1 => ?_)
  refine im_aload_n 842 1596 (tz_21 2 rfl) rfl ?_
  refine im_cWi (S := [.int x1]) (fun _ _ hv => cpV (fr' := 5) (lo' := 107) (i := 843) (As := []) (S := [.int x1]) (a := p2) (c := 11) (tz_21 3 rfl) lk_Z_250 mw_M_expressionCount mv_M_expressionCount rfl ⟨by decide, rfl⟩ rfl rfl rfl (gd_some hv).1 (sp_M_expressionCount G hv)) (fun x2 M2 => ?_)
  refine im_ic_eq 844 1600 3255 (tz_21 4 rfl) (by decide) ?_ ?_
  · exact im_less _ (by simp [lv_le]) (hj M2)
  · refine im_iconst 845 1603 (tz_21 5 rfl) rfl ?_
    exact im_end rfl (wp_zreturn 846 1604 (ty := .boolean) rfl zn_0 (tz_21 6 rfl))

set_option maxRecDepth 100000 in
set_option maxHeartbeats 4000000 in
theorem li_c27 {G : gl_T} {M0 : mm_T} {n : Nat} {xs : Nat → Int32} (hs : sc_H G n xs) (p1 p2 p3 : Nat) (i : Int32) (jj : mm_T → Option (Int32 × mm_T)) (hj : ∀ N, im_I mi_Z_law 26 601 G M0 sw_i (jj N) 3255 [some (.ref (st_B + 9000)), some (.ref p1), some (.ref p2), some (.ref p3), some (.int i), none, none, none, none] [] N) (N : mm_T) : im_I mi_Z_law 26 601 G M0 sw_i (lw_c27 n xs p1 p2 p3 i jj N) 1605 [some (.ref (st_B + 9000)), some (.ref p1), some (.ref p2), some (.ref p3), some (.int i), none, none, none, none] [] N := by
  unfold lw_c27
  refine im_aload_n 847 1605 (tz_21 7 rfl) rfl ?_
  refine im_aload_n 848 1606 (tz_21 8 rfl) rfl ?_
  refine im_iload 849 1607 (tz_21 9 rfl) rfl ?_
  refine im_iconst 850 1609 (tz_21 10 rfl) rfl ?_
  refine im_iadd 851 1610 (tz_21 11 rfl) ?_
  refine im_sld 852 1611 hs (tz_21 12 rfl) (fun x1 => ?_)
  refine im_aload_n 853 1612 (tz_21 13 rfl) rfl ?_
  refine im_cWi (S := []) (fun _ _ hv => cpW (fr' := 8) (lo' := 182) (i := 854) (As := [.ref p1, .int x1, .ref p3]) (S := []) (tz_21 14 rfl) lm_Z_251 mw_Z_isRedundant mv_Z_isRedundant rfl rfl rfl rfl (sp_Z_isRedundant G hv)) (fun x2 M1 => ?_)
  refine im_istore 855 1616 [some (.ref (st_B + 9000)), some (.ref p1), some (.ref p2), some (.ref p3), some (.int i), some (.int x2), none, none, none] rfl rfl rfl ?_
  refine im_aload_n 856 1618 (tz_21 16 rfl) rfl ?_
  refine im_aload_n 857 1619 (tz_21 17 rfl) rfl ?_
  refine im_iload 858 1620 (tz_21 18 rfl) rfl ?_
  refine im_iconst 859 1622 (tz_21 19 rfl) rfl ?_
  refine im_iadd 860 1623 (tz_21 20 rfl) ?_
  refine im_sld 861 1624 hs (tz_21 21 rfl) (fun x3 => ?_)
  refine im_cWi (S := []) (fun _ _ hv => cpV (fr' := 24) (lo' := 556) (i := 862) (As := [.int x3]) (S := []) (a := p2) (c := 11) (tz_21 22 rfl) lk_Z_253 mw_M_isRedundant mv_M_isRedundant rfl ⟨by decide, rfl⟩ rfl rfl rfl (gd_some hv).1 (sp_M_isRedundant G hv)) (fun x4 M2 => ?_)
  refine im_istore 863 1628 [some (.ref (st_B + 9000)), some (.ref p1), some (.ref p2), some (.ref p3), some (.int i), some (.int x2), some (.int x4), none, none] rfl rfl rfl ?_
  refine im_aload_n 864 1630 (tz_21 24 rfl) rfl ?_
  refine im_ci (S := []) (fun _ hv => cpV (fr' := 1) (lo' := 20) (i := 865) (As := []) (S := []) (a := p2) (c := 11) (tz_21 25 rfl) lk_Z_161 mw_M_thrown mv_M_thrown rfl ⟨by decide, rfl⟩ rfl rfl rfl (gd_some hv).1 (sp_M_thrown G hv)) (fun x5 => ?_)
  refine im_iload 866 1634 (tz_21 26 rfl) rfl ?_
  refine im_ic_eq 867 1636 1641 (tz_21 27 rfl) (by decide) ?_ ?_
  · refine im_iload 870 1641 (tz_21 30 rfl) rfl ?_
    refine im_jp (fun j1665 => im_I mi_Z_law 26 601 G M0 sw_i (j1665) 1665 [some (.ref (st_B + 9000)), some (.ref p1), some (.ref p2), some (.ref p3), some (.int i), none, none, none, none] [] M2) ?_ (fun j1665 hj1665 => ?_)
    · show im_I mi_Z_law 26 601 G M0 sw_i (_) 1665 [some (.ref (st_B + 9000)), some (.ref p1), some (.ref p2), some (.ref p3), some (.int i), none, none, none, none] [] M2
      refine im_goto 884 1665 3255 (tz_22 4 rfl) (by decide) ?_
      exact im_less _ (by simp [lv_le]) (hj M2)
    refine im_if_ne 871 1643 1665 (tz_21 31 rfl) (by decide) ?_ ?_
    · exact im_less _ (by simp [lv_le]) (hj1665)
    · refine im_aload_n 872 1646 (tz_21 32 rfl) rfl ?_
      refine im_iconst 873 1647 (tz_21 33 rfl) rfl ?_
      refine im_laload 874 1648 (tz_21 34 rfl) (fun x6 => ?_)
      refine im_iload 875 1649 (tz_21 35 rfl) rfl ?_
      refine im_jp (fun j1659 => ∀ (x7 : Int64), im_I mi_Z_law 26 601 G M0 sw_i (j1659 x7) 1659 [some (.ref (st_B + 9000)), some (.ref p1), some (.ref p2), some (.ref p3), some (.int i), none, none, none, none] [.long x7, .long x6] M2) ?_ (fun j1659 hj1659 => ?_)
      · intro x7
        show im_I mi_Z_law 26 601 G M0 sw_i (_) 1659 [some (.ref (st_B + 9000)), some (.ref p1), some (.ref p2), some (.ref p3), some (.int i), none, none, none, none] [.long x7, .long x6] M2
        refine im_lcmp 880 1659 (tz_22 0 rfl) ?_
        refine im_if_eq 881 1660 1665 (tz_22 1 rfl) (by decide) ?_ ?_
        · exact im_less _ (by simp [lv_le]) (hj1665)
        · refine im_iconst 882 1663 (tz_22 2 rfl) rfl ?_
          exact im_end rfl (wp_zreturn 883 1664 (ty := .boolean) rfl zn_0 (tz_22 3 rfl))
      refine im_if_eq 876 1651 1658 (tz_21 36 rfl) (by decide) ?_ ?_
      · refine im_lconst 879 1658 (tz_21 39 rfl) rfl ?_
        exact im_less _ (by simp [lv_le]) (hj1659 (0 : Int64))
      · refine im_lconst 877 1654 (tz_21 37 rfl) rfl ?_
        refine im_goto 878 1655 1659 (tz_21 38 rfl) (by decide) ?_
        exact im_less _ (by simp [lv_le]) (hj1659 (1 : Int64))
  · refine im_iconst 868 1639 (tz_21 28 rfl) rfl ?_
    exact im_end rfl (wp_zreturn 869 1640 (ty := .boolean) rfl zn_0 (tz_21 29 rfl))

set_option maxRecDepth 100000 in
set_option maxHeartbeats 4000000 in
theorem li_c28 {G : gl_T} {M0 : mm_T} {n : Nat} {xs : Nat → Int32} (hs : sc_H G n xs) (p1 p2 p3 : Nat) (i : Int32) (jj : mm_T → Option (Int32 × mm_T)) (hj : ∀ N, im_I mi_Z_law 26 601 G M0 sw_i (jj N) 3255 [some (.ref (st_B + 9000)), some (.ref p1), some (.ref p2), some (.ref p3), some (.int i), none, none, none, none] [] N) (N : mm_T) : im_I mi_Z_law 26 601 G M0 sw_i (lw_c28 n xs p1 p2 p3 i jj N) 1668 [some (.ref (st_B + 9000)), some (.ref p1), some (.ref p2), some (.ref p3), some (.int i), none, none, none, none] [] N := by
  unfold lw_c28
  refine im_aload_n 885 1668 (tz_22 5 rfl) rfl ?_
  refine im_cWi (S := []) (fun _ _ hv => cpV (fr' := 7) (lo' := 161) (i := 886) (As := []) (S := []) (a := p1) (c := 10) (tz_22 6 rfl) lk_Z_254 mw_D_redundantCount mv_D_redundantCount rfl ⟨by decide, rfl⟩ rfl rfl rfl (gd_some hv).1 (sp_D_redundantCount G hv)) (fun x1 M1 => ?_)
  refine im_aload_n 887 1672 (tz_22 7 rfl) rfl ?_
  refine im_cWi (S := [.int x1]) (fun _ _ hv => cpV (fr' := 24) (lo' := 556) (i := 888) (As := []) (S := [.int x1]) (a := p2) (c := 11) (tz_22 8 rfl) lk_Z_257 mw_M_redundantCount mv_M_redundantCount rfl ⟨by decide, rfl⟩ rfl rfl rfl (gd_some hv).1 (sp_M_redundantCount G hv)) (fun x2 M2 => ?_)
  refine im_ic_eq 889 1676 3255 (tz_22 9 rfl) (by decide) ?_ ?_
  · exact im_less _ (by simp [lv_le]) (hj M2)
  · refine im_iconst 890 1679 (tz_22 10 rfl) rfl ?_
    exact im_end rfl (wp_zreturn 891 1680 (ty := .boolean) rfl zn_0 (tz_22 11 rfl))

