set_option maxRecDepth 100000 in
set_option maxHeartbeats 4000000 in
theorem ip_D_liveness (G : gl_T) (t : Nat) (M : mm_T) : im_I mi_D_liveness 6 136 G M sw_r (ff_D_liveness t M) 0 [some (.ref t)] [] M := by
  unfold ff_D_liveness
  refine im_gd (fun hg => ?_)
  refine im_aload_n 0 0 rfl rfl ?_
  refine im_getR 1 1 rfl fd_D_58 (by decide +kernel) (fun x1 => ?_)
  refine im_getI 2 4 rfl fd_D_475 (by decide +kernel) (fun x2 => ?_)
  refine im_jp (fun j21 => ∀  (M1 : mm_T), im_I mi_D_liveness 6 136 G M sw_r (j21 M1) 21 [some (.ref t)] [] M1) ?_ (fun j21 hj21 => ?_)
  · intro M1
    show im_I mi_D_liveness 6 136 G M sw_r (_) 21 [some (.ref t)] [] M1
    refine im_aload_n 9 21 rfl rfl ?_
    refine im_getR 10 22 rfl fd_D_58 (by decide +kernel) (fun x3 => ?_)
    exact im_end rfl (wp_areturn 11 25 rfl (Or.inl ⟨_, rfl⟩) rfl)
  refine im_if_ne 3 7 21 rfl (by decide) ?_ ?_
  · exact im_less _ (by simp [lv_le]) (hj21 M)
  · refine im_aload_n 4 10 rfl rfl ?_
    refine im_getR 5 11 rfl fd_D_58 (by decide +kernel) (fun x4 => ?_)
    refine im_aload_n 6 14 rfl rfl ?_
    refine im_getR 7 15 rfl fd_D_87 (by decide +kernel) (fun x5 => ?_)
    refine im_cWv (S := []) (fun _ hv => cpV (fr' := 5) (lo' := 112) (i := 8) (As := [.ref x5]) (S := []) (a := x4) (c := 4) rfl lk_D_482 mw_L_analyse mv_L_analyse rfl ⟨by decide, rfl⟩ rfl rfl rfl (gd_some hv).1 (sp_L_analyse G hv)) (fun M2 => ?_)
    exact im_less _ (by simp [lv_le]) (hj21 M2)

theorem sp_D_liveness (G : gl_T) {t : Nat} {M : mm_T} {y : Nat × mm_T} (h : ff_D_liveness t M = some y) : sp_S mi_D_liveness 6 136 G [.ref t] M (sw_r y).1 (sw_r y).2 := sp_of mo_D_liveness mw_D_liveness (Or.inl (by decide +kernel)) rfl rfl (Or.inl rfl) (ip_D_liveness G t M y h)

set_option maxRecDepth 100000 in
set_option maxHeartbeats 4000000 in
theorem ip_L_liveAt (G : gl_T) (t : Nat) (a1 : Int32) (M : mm_T) : im_I mi_L_liveAt 2 41 G M (sh_i M) (ff_L_liveAt t a1 M) 0 [some (.ref t), some (.int a1)] [] M := by
  unfold ff_L_liveAt
  refine im_gd (fun hg => ?_)
  refine im_aload_n 0 0 rfl rfl ?_
  refine im_getR 1 1 rfl fd_L_9 (by decide +kernel) (fun x1 => ?_)
  refine im_iload_n 2 4 rfl rfl ?_
  refine im_ci (S := []) (fun _ hv => cpS (fr' := 1) (lo' := 20) (i := 3) (As := [.ref x1, .int a1]) (S := []) rfl lk_L_37 mw_D_at_a mv_D_at_a rfl rfl rfl rfl (sp_D_at_a G hv)) (fun x2 => ?_)
  exact im_end rfl (wp_ireturn 4 8 rfl rfl)

theorem sp_L_liveAt (G : gl_T) {t : Nat} {a1 : Int32} {M : mm_T} {y : Int32} (h : ff_L_liveAt t a1 M = some y) : sp_S mi_L_liveAt 2 41 G [.ref t, .int a1] M ((sh_i M) y).1 ((sh_i M) y).2 := sp_of mo_L_liveAt mw_L_liveAt (Or.inl (by decide +kernel)) rfl rfl (Or.inl rfl) (ip_L_liveAt G t a1 M y h)

set_option maxRecDepth 100000 in
set_option maxHeartbeats 4000000 in
theorem ip_D_isLiveIn (G : gl_T) (t : Nat) (a1 : Int32) (a2 : Int32) (M : mm_T) : im_I mi_D_isLiveIn 7 156 G M sX_i (ff_D_isLiveIn t a1 a2 M) 0 [some (.ref t), some (.int a1), some (.int a2)] [] M := by
  unfold ff_D_isLiveIn
  refine im_gd (fun hg => ?_)
  refine im_aload_n 0 0 rfl rfl ?_
  refine im_iload_n 1 1 rfl rfl ?_
  refine im_rq (S := []) (fun hv => cpV (fr' := 6) (lo' := 90) (i := 2) (As := [.int a1]) (S := []) (a := t) (c := 10) rfl lk_D_137 mw_D_requireBlock mv_D_requireBlock rfl ⟨by decide, rfl⟩ rfl rfl rfl (gd_some hv).1 (sp_D_requireBlock G hv)) (fun _ hv => xpV (fr' := 6) (lo' := 90) (i := 2) (As := [.int a1]) (S := []) (a := t) (c := 10) rfl lm_D_137 mw_D_requireBlock mv_D_requireBlock rfl ⟨by decide, rfl⟩ rfl rfl rfl (gd_some hv).1 (sp_D_requireBlock G hv) (tw_out rfl)) (fun _ => rfl) ?_
  refine im_iload_n 3 5 rfl rfl ?_
  refine im_rq (S := []) (fun hv => cpS (fr' := 6) (lo' := 90) (i := 4) (As := [.int a2]) (S := []) rfl lk_D_199 mw_D_requireVariable mv_D_requireVariable rfl rfl rfl rfl (sp_D_requireVariable G hv)) (fun _ hv => xpS (fr' := 6) (lo' := 90) (i := 4) (As := [.int a2]) (S := []) rfl lm_D_199 mw_D_requireVariable mv_D_requireVariable rfl rfl rfl rfl (sp_D_requireVariable G hv) (tw_out rfl)) (fun _ => rfl) ?_
  refine im_aload_n 5 9 rfl rfl ?_
  refine im_cWr (S := []) (fun _ _ hv => cpV (fr' := 6) (lo' := 136) (i := 6) (As := []) (S := []) (a := t) (c := 10) rfl lk_D_225 mw_D_liveness mv_D_liveness rfl ⟨by decide, rfl⟩ rfl rfl rfl (gd_some hv).1 (sp_D_liveness G hv)) (fun x1 M1 => ?_)
  refine im_aload_n 7 13 rfl rfl ?_
  refine im_getR 8 14 rfl fd_D_87 (by decide +kernel) (fun x2 => ?_)
  refine im_iload_n 9 17 rfl rfl ?_
  refine im_ci (S := [.ref x1]) (fun _ hv => cpV (fr' := 2) (lo' := 41) (i := 10) (As := [.int a1]) (S := [.ref x1]) (a := x2) (c := 7) rfl lk_D_188 mw_P_firstPoint mv_P_firstPoint rfl ⟨by decide, rfl⟩ rfl rfl rfl (gd_some hv).1 (sp_P_firstPoint G hv)) (fun x3 => ?_)
  refine im_ci (S := []) (fun _ hv => cpV (fr' := 2) (lo' := 41) (i := 11) (As := [.int x3]) (S := []) (a := x1) (c := 4) rfl lk_D_229 mw_L_liveAt mv_L_liveAt rfl ⟨by decide, rfl⟩ rfl rfl rfl (gd_some hv).1 (sp_L_liveAt G hv)) (fun x4 => ?_)
  refine im_i2l 12 24 rfl ?_
  refine im_iload_n 13 25 rfl rfl ?_
  refine im_ci (S := []) (fun _ hv => cpS (fr' := 1) (lo' := 20) (i := 14) (As := [.long ((x4).toInt64), .int a2]) (S := []) rfl lk_D_195 mw_D_hasBit mv_D_hasBit rfl rfl rfl rfl (sp_D_hasBit G hv)) (fun x5 => ?_)
  exact im_endZ (fun _ => rfl) (fun hn => wp_zreturn 15 29 (ty := .boolean) rfl hn rfl)

theorem sp_D_isLiveIn (G : gl_T) {t : Nat} {a1 : Int32} {a2 : Int32} {M : mm_T} {y : (Int32 ⊕ String) × mm_T} (h : ff_D_isLiveIn t a1 a2 M = some y) : sp_S mi_D_isLiveIn 7 156 G [.ref t, .int a1, .int a2] M (sX_i y).1 (sX_i y).2 := sp_of mo_D_isLiveIn mw_D_isLiveIn (Or.inl (by decide +kernel)) rfl rfl (Or.inl rfl) (ip_D_isLiveIn G t a1 a2 M y h)

set_option maxRecDepth 100000 in
set_option maxHeartbeats 4000000 in
theorem ip_P_exitPoint (G : gl_T) (t : Nat) (a1 : Int32) (M : mm_T) : im_I mi_P_exitPoint 1 20 G M (sh_i M) (ff_P_exitPoint t a1 M) 0 [some (.ref t), some (.int a1)] [] M := by
  unfold ff_P_exitPoint
  refine im_gd (fun hg => ?_)
  refine im_bipush 0 0 rfl rfl ?_
  refine im_iload_n 1 2 rfl rfl ?_
  refine im_iadd 2 3 rfl ?_
  exact im_end rfl (wp_ireturn 3 4 rfl rfl)

theorem sp_P_exitPoint (G : gl_T) {t : Nat} {a1 : Int32} {M : mm_T} {y : Int32} (h : ff_P_exitPoint t a1 M = some y) : sp_S mi_P_exitPoint 1 20 G [.ref t, .int a1] M ((sh_i M) y).1 ((sh_i M) y).2 := sp_of mo_P_exitPoint mw_P_exitPoint (Or.inl (by decide +kernel)) rfl rfl (Or.inl rfl) (ip_P_exitPoint G t a1 M y h)

set_option maxRecDepth 100000 in
set_option maxHeartbeats 4000000 in
theorem ip_L_liveBehind (G : gl_T) (t : Nat) (a1 : Int32) (M : mm_T) : im_I mi_L_liveBehind 2 41 G M (sh_i M) (ff_L_liveBehind t a1 M) 0 [some (.ref t), some (.int a1)] [] M := by
  unfold ff_L_liveBehind
  refine im_gd (fun hg => ?_)
  refine im_aload_n 0 0 rfl rfl ?_
  refine im_getR 1 1 rfl fd_L_15 (by decide +kernel) (fun x1 => ?_)
  refine im_iload_n 2 4 rfl rfl ?_
  refine im_ci (S := []) (fun _ hv => cpS (fr' := 1) (lo' := 20) (i := 3) (As := [.ref x1, .int a1]) (S := []) rfl lk_L_37 mw_D_at_a mv_D_at_a rfl rfl rfl rfl (sp_D_at_a G hv)) (fun x2 => ?_)
  exact im_end rfl (wp_ireturn 4 8 rfl rfl)

theorem sp_L_liveBehind (G : gl_T) {t : Nat} {a1 : Int32} {M : mm_T} {y : Int32} (h : ff_L_liveBehind t a1 M = some y) : sp_S mi_L_liveBehind 2 41 G [.ref t, .int a1] M ((sh_i M) y).1 ((sh_i M) y).2 := sp_of mo_L_liveBehind mw_L_liveBehind (Or.inl (by decide +kernel)) rfl rfl (Or.inl rfl) (ip_L_liveBehind G t a1 M y h)

set_option maxRecDepth 100000 in
set_option maxHeartbeats 4000000 in
theorem ip_D_isLiveOut (G : gl_T) (t : Nat) (a1 : Int32) (a2 : Int32) (M : mm_T) : im_I mi_D_isLiveOut 7 156 G M sX_i (ff_D_isLiveOut t a1 a2 M) 0 [some (.ref t), some (.int a1), some (.int a2)] [] M := by
  unfold ff_D_isLiveOut
  refine im_gd (fun hg => ?_)
  refine im_aload_n 0 0 rfl rfl ?_
  refine im_iload_n 1 1 rfl rfl ?_
  refine im_rq (S := []) (fun hv => cpV (fr' := 6) (lo' := 90) (i := 2) (As := [.int a1]) (S := []) (a := t) (c := 10) rfl lk_D_137 mw_D_requireBlock mv_D_requireBlock rfl ⟨by decide, rfl⟩ rfl rfl rfl (gd_some hv).1 (sp_D_requireBlock G hv)) (fun _ hv => xpV (fr' := 6) (lo' := 90) (i := 2) (As := [.int a1]) (S := []) (a := t) (c := 10) rfl lm_D_137 mw_D_requireBlock mv_D_requireBlock rfl ⟨by decide, rfl⟩ rfl rfl rfl (gd_some hv).1 (sp_D_requireBlock G hv) (tw_out rfl)) (fun _ => rfl) ?_
  refine im_iload_n 3 5 rfl rfl ?_
  refine im_rq (S := []) (fun hv => cpS (fr' := 6) (lo' := 90) (i := 4) (As := [.int a2]) (S := []) rfl lk_D_199 mw_D_requireVariable mv_D_requireVariable rfl rfl rfl rfl (sp_D_requireVariable G hv)) (fun _ hv => xpS (fr' := 6) (lo' := 90) (i := 4) (As := [.int a2]) (S := []) rfl lm_D_199 mw_D_requireVariable mv_D_requireVariable rfl rfl rfl rfl (sp_D_requireVariable G hv) (tw_out rfl)) (fun _ => rfl) ?_
  refine im_aload_n 5 9 rfl rfl ?_
  refine im_cWr (S := []) (fun _ _ hv => cpV (fr' := 6) (lo' := 136) (i := 6) (As := []) (S := []) (a := t) (c := 10) rfl lk_D_225 mw_D_liveness mv_D_liveness rfl ⟨by decide, rfl⟩ rfl rfl rfl (gd_some hv).1 (sp_D_liveness G hv)) (fun x1 M1 => ?_)
  refine im_aload_n 7 13 rfl rfl ?_
  refine im_getR 8 14 rfl fd_D_87 (by decide +kernel) (fun x2 => ?_)
  refine im_iload_n 9 17 rfl rfl ?_
  refine im_ci (S := [.ref x1]) (fun _ hv => cpV (fr' := 1) (lo' := 20) (i := 10) (As := [.int a1]) (S := [.ref x1]) (a := x2) (c := 7) rfl lk_D_232 mw_P_exitPoint mv_P_exitPoint rfl ⟨by decide, rfl⟩ rfl rfl rfl (gd_some hv).1 (sp_P_exitPoint G hv)) (fun x3 => ?_)
  refine im_ci (S := []) (fun _ hv => cpV (fr' := 2) (lo' := 41) (i := 11) (As := [.int x3]) (S := []) (a := x1) (c := 4) rfl lk_D_235 mw_L_liveBehind mv_L_liveBehind rfl ⟨by decide, rfl⟩ rfl rfl rfl (gd_some hv).1 (sp_L_liveBehind G hv)) (fun x4 => ?_)
  refine im_i2l 12 24 rfl ?_
  refine im_iload_n 13 25 rfl rfl ?_
  refine im_ci (S := []) (fun _ hv => cpS (fr' := 1) (lo' := 20) (i := 14) (As := [.long ((x4).toInt64), .int a2]) (S := []) rfl lk_D_195 mw_D_hasBit mv_D_hasBit rfl rfl rfl rfl (sp_D_hasBit G hv)) (fun x5 => ?_)
  exact im_endZ (fun _ => rfl) (fun hn => wp_zreturn 15 29 (ty := .boolean) rfl hn rfl)

theorem sp_D_isLiveOut (G : gl_T) {t : Nat} {a1 : Int32} {a2 : Int32} {M : mm_T} {y : (Int32 ⊕ String) × mm_T} (h : ff_D_isLiveOut t a1 a2 M = some y) : sp_S mi_D_isLiveOut 7 156 G [.ref t, .int a1, .int a2] M (sX_i y).1 (sX_i y).2 := sp_of mo_D_isLiveOut mw_D_isLiveOut (Or.inl (by decide +kernel)) rfl rfl (Or.inl rfl) (ip_D_isLiveOut G t a1 a2 M y h)

set_option maxRecDepth 100000 in
set_option maxHeartbeats 4000000 in
theorem ip_D_liveBefore (G : gl_T) (t : Nat) (a1 : Int32) (M : mm_T) : im_I mi_D_liveBefore 7 156 G M sX_i (ff_D_liveBefore t a1 M) 0 [some (.ref t), some (.int a1)] [] M := by
  unfold ff_D_liveBefore
  refine im_gd (fun hg => ?_)
  refine im_aload_n 0 0 rfl rfl ?_
  refine im_iload_n 1 1 rfl rfl ?_
  refine im_rq (S := []) (fun hv => cpV (fr' := 6) (lo' := 90) (i := 2) (As := [.int a1]) (S := []) (a := t) (c := 10) rfl lk_D_144 mw_D_requireInstruction mv_D_requireInstruction rfl ⟨by decide, rfl⟩ rfl rfl rfl (gd_some hv).1 (sp_D_requireInstruction G hv)) (fun _ hv => xpV (fr' := 6) (lo' := 90) (i := 2) (As := [.int a1]) (S := []) (a := t) (c := 10) rfl lm_D_144 mw_D_requireInstruction mv_D_requireInstruction rfl ⟨by decide, rfl⟩ rfl rfl rfl (gd_some hv).1 (sp_D_requireInstruction G hv) (tw_out rfl)) (fun _ => rfl) ?_
  refine im_aload_n 3 5 rfl rfl ?_
  refine im_cWr (S := []) (fun _ _ hv => cpV (fr' := 6) (lo' := 136) (i := 4) (As := []) (S := []) (a := t) (c := 10) rfl lk_D_225 mw_D_liveness mv_D_liveness rfl ⟨by decide, rfl⟩ rfl rfl rfl (gd_some hv).1 (sp_D_liveness G hv)) (fun x1 M1 => ?_)
  refine im_iload_n 5 9 rfl rfl ?_
  refine im_ci (S := []) (fun _ hv => cpV (fr' := 2) (lo' := 41) (i := 6) (As := [.int a1]) (S := []) (a := x1) (c := 4) rfl lk_D_229 mw_L_liveAt mv_L_liveAt rfl ⟨by decide, rfl⟩ rfl rfl rfl (gd_some hv).1 (sp_L_liveAt G hv)) (fun x2 => ?_)
  refine im_ci (S := []) (fun _ hv => cpS (fr' := 1) (lo' := 20) (i := 7) (As := [.int x2]) (S := []) rfl lk_D_172 mw_JI_bitCount mv_JI_bitCount rfl rfl rfl rfl (sp_JI_bitCount G hv)) (fun x3 => ?_)
  exact im_end rfl (wp_ireturn 8 16 rfl rfl)

theorem sp_D_liveBefore (G : gl_T) {t : Nat} {a1 : Int32} {M : mm_T} {y : (Int32 ⊕ String) × mm_T} (h : ff_D_liveBefore t a1 M = some y) : sp_S mi_D_liveBefore 7 156 G [.ref t, .int a1] M (sX_i y).1 (sX_i y).2 := sp_of mo_D_liveBefore mw_D_liveBefore (Or.inl (by decide +kernel)) rfl rfl (Or.inl rfl) (ip_D_liveBefore G t a1 M y h)

set_option maxRecDepth 100000 in
set_option maxHeartbeats 4000000 in
theorem ip_L_isDeadAt (G : gl_T) (t : Nat) (a1 : Nat) (a2 : Int32) (M : mm_T) : im_I mi_L_isDeadAt 4 84 G M (sh_i M) (ff_L_isDeadAt t a1 a2 M) 0 [some (.ref t), some (.ref a1), some (.int a2), none] [] M := by
  unfold ff_L_isDeadAt
  refine im_gd (fun hg => ?_)
  refine im_aload_n 0 0 rfl rfl ?_
  refine im_iload_n 1 1 rfl rfl ?_
  refine im_ci (S := []) (fun _ hv => cpV (fr' := 3) (lo' := 62) (i := 2) (As := [.int a2]) (S := []) (a := a1) (c := 7) rfl lk_L_41 mw_P_definedAt mv_P_definedAt rfl ⟨by decide, rfl⟩ rfl rfl rfl (gd_some hv).1 (sp_P_definedAt G hv)) (fun x1 => ?_)
  refine im_istore_n 3 5 [some (.ref t), some (.ref a1), some (.int a2), some (.int x1)] rfl rfl rfl ?_
  refine im_iload_n 4 6 rfl rfl ?_
  refine im_iconst 5 7 rfl rfl ?_
  refine im_ic_eq 6 8 31 rfl (by decide) ?_ ?_
  · refine im_iconst 17 31 rfl rfl ?_
    exact im_end rfl (wp_zreturn 18 32 (ty := .boolean) rfl (by first | exact nz_0 | exact nz_1) rfl)
  · refine im_aload_n 7 11 rfl rfl ?_
    refine im_getR 8 12 rfl fd_L_15 (by decide +kernel) (fun x2 => ?_)
    refine im_iload_n 9 15 rfl rfl ?_
    refine im_ci (S := []) (fun _ hv => cpS (fr' := 1) (lo' := 20) (i := 10) (As := [.ref x2, .int a2]) (S := []) rfl lk_L_37 mw_D_at_a mv_D_at_a rfl rfl rfl rfl (sp_D_at_a G hv)) (fun x3 => ?_)
    refine im_i2l 11 19 rfl ?_
    refine im_iload_n 12 20 rfl rfl ?_
    refine im_ci (S := []) (fun _ hv => cpS (fr' := 1) (lo' := 20) (i := 13) (As := [.long ((x3).toInt64), .int x1]) (S := []) rfl lk_L_45 mw_D_hasBit mv_D_hasBit rfl rfl rfl rfl (sp_D_hasBit G hv)) (fun x4 => ?_)
    refine im_if_ne 14 24 31 rfl (by decide) ?_ ?_
    · refine im_iconst 17 31 rfl rfl ?_
      exact im_end rfl (wp_zreturn 18 32 (ty := .boolean) rfl (by first | exact nz_0 | exact nz_1) rfl)
    · refine im_iconst 15 27 rfl rfl ?_
      refine im_goto 16 28 32 rfl (by decide) ?_
      exact im_end rfl (wp_zreturn 18 32 (ty := .boolean) rfl (by first | exact nz_0 | exact nz_1) rfl)

theorem sp_L_isDeadAt (G : gl_T) {t : Nat} {a1 : Nat} {a2 : Int32} {M : mm_T} {y : Int32} (h : ff_L_isDeadAt t a1 a2 M = some y) : sp_S mi_L_isDeadAt 4 84 G [.ref t, .ref a1, .int a2] M ((sh_i M) y).1 ((sh_i M) y).2 := sp_of mo_L_isDeadAt mw_L_isDeadAt (Or.inl (by decide +kernel)) rfl rfl (Or.inl rfl) (ip_L_isDeadAt G t a1 a2 M y h)

set_option maxRecDepth 100000 in
set_option maxHeartbeats 4000000 in
theorem ip_D_isDead (G : gl_T) (t : Nat) (a1 : Int32) (M : mm_T) : im_I mi_D_isDead 7 156 G M sX_i (ff_D_isDead t a1 M) 0 [some (.ref t), some (.int a1)] [] M := by
  unfold ff_D_isDead
  refine im_gd (fun hg => ?_)
  refine im_aload_n 0 0 rfl rfl ?_
  refine im_iload_n 1 1 rfl rfl ?_
  refine im_rq (S := []) (fun hv => cpV (fr' := 6) (lo' := 90) (i := 2) (As := [.int a1]) (S := []) (a := t) (c := 10) rfl lk_D_144 mw_D_requireInstruction mv_D_requireInstruction rfl ⟨by decide, rfl⟩ rfl rfl rfl (gd_some hv).1 (sp_D_requireInstruction G hv)) (fun _ hv => xpV (fr' := 6) (lo' := 90) (i := 2) (As := [.int a1]) (S := []) (a := t) (c := 10) rfl lm_D_144 mw_D_requireInstruction mv_D_requireInstruction rfl ⟨by decide, rfl⟩ rfl rfl rfl (gd_some hv).1 (sp_D_requireInstruction G hv) (tw_out rfl)) (fun _ => rfl) ?_
  refine im_aload_n 3 5 rfl rfl ?_
  refine im_cWr (S := []) (fun _ _ hv => cpV (fr' := 6) (lo' := 136) (i := 4) (As := []) (S := []) (a := t) (c := 10) rfl lk_D_225 mw_D_liveness mv_D_liveness rfl ⟨by decide, rfl⟩ rfl rfl rfl (gd_some hv).1 (sp_D_liveness G hv)) (fun x1 M1 => ?_)
  refine im_aload_n 5 9 rfl rfl ?_
  refine im_getR 6 10 rfl fd_D_87 (by decide +kernel) (fun x2 => ?_)
  refine im_iload_n 7 13 rfl rfl ?_
  refine im_ci (S := []) (fun _ hv => cpV (fr' := 4) (lo' := 84) (i := 8) (As := [.ref x2, .int a1]) (S := []) (a := x1) (c := 4) rfl lk_D_238 mw_L_isDeadAt mv_L_isDeadAt rfl ⟨by decide, rfl⟩ rfl rfl rfl (gd_some hv).1 (sp_L_isDeadAt G hv)) (fun x3 => ?_)
  exact im_endZ (fun _ => rfl) (fun hn => wp_zreturn 9 17 (ty := .boolean) rfl hn rfl)

theorem sp_D_isDead (G : gl_T) {t : Nat} {a1 : Int32} {M : mm_T} {y : (Int32 ⊕ String) × mm_T} (h : ff_D_isDead t a1 M = some y) : sp_S mi_D_isDead 7 156 G [.ref t, .int a1] M (sX_i y).1 (sX_i y).2 := sp_of mo_D_isDead mw_D_isDead (Or.inl (by decide +kernel)) rfl rfl (Or.inl rfl) (ip_D_isDead G t a1 M y h)

set_option maxRecDepth 100000 in
set_option maxHeartbeats 4000000 in
theorem li_L_countDead_4 (G : gl_T) (p0 : Nat) (p1 : Nat) (M : mm_T) : ∀ (fu : Nat) (q2 : Int32) (q3 : Int32), im_I mi_L_countDead 5 107 G M (sh_i M) (lf_L_countDead_4 p0 p1 M fu q2 q3) 4 [some (.ref p0), some (.ref p1), some (.int q2), some (.int q3)] [] M := by
  intro fu
  induction fu with
  | zero => intro _ _; exact im_none
  | succ fu ih =>
    intro q2 q3
    show im_I mi_L_countDead 5 107 G M (sh_i M) (lb_L_countDead_4 p0 p1 M (lf_L_countDead_4 p0 p1 M fu) q2 q3) 4 [some (.ref p0), some (.ref p1), some (.int q2), some (.int q3)] [] M
    unfold lb_L_countDead_4
    refine im_iload_n 4 4 rfl rfl ?_
    refine im_aload_n 5 5 rfl rfl ?_
    refine im_getI 6 6 rfl fd_L_49 (by decide +kernel) (fun x1 => ?_)
    refine im_ic_ge 7 9 35 rfl (by decide) ?_ ?_
    · refine im_iload_n 21 35 rfl rfl ?_
      exact im_end rfl (wp_ireturn 22 36 rfl rfl)
    · refine im_iload_n 8 12 rfl rfl ?_
      refine im_aload_n 9 13 rfl rfl ?_
      refine im_aload_n 10 14 rfl rfl ?_
      refine im_iload_n 11 15 rfl rfl ?_
      refine im_ci (S := [.int q2]) (fun _ hv => cpV (fr' := 4) (lo' := 84) (i := 12) (As := [.ref p1, .int q3]) (S := [.int q2]) (a := p0) (c := 4) rfl lk_L_53 mw_L_isDeadAt mv_L_isDeadAt rfl ⟨by decide, rfl⟩ rfl rfl rfl (gd_some hv).1 (sp_L_isDeadAt G hv)) (fun x2 => ?_)
      refine im_jp (fun j27 => ∀ (x3 : Int32), im_I mi_L_countDead 5 107 G M (sh_i M) (j27 x3) 27 [some (.ref p0), some (.ref p1), none, some (.int q3)] [.int x3, .int q2] M) ?_ (fun j27 hj27 => ?_)
      · intro x3
        show im_I mi_L_countDead 5 107 G M (sh_i M) (_) 27 [some (.ref p0), some (.ref p1), none, some (.int q3)] [.int x3, .int q2] M
        refine im_iadd 17 27 rfl ?_
        refine im_letI (fun x4 => ?_)
        refine im_istore_n 18 28 [some (.ref p0), some (.ref p1), some (.int x4), some (.int q3)] rfl rfl rfl ?_
        refine im_iincL 19 29 (fun x5 => [some (.ref p0), some (.ref p1), some (.int x4), some (.int x5)]) rfl rfl rfl rfl (fun _ => rfl) (fun x5 => ?_)
        refine im_goto 20 32 4 rfl (by decide) ?_
        exact im_less _ (by simp [lv_le]) (ih x4 x5)
      refine im_if_eq 13 19 26 rfl (by decide) ?_ ?_
      · refine im_iconst 16 26 rfl rfl ?_
        exact im_less _ (by simp [lv_le]) (hj27 (0 : Int32))
      · refine im_iconst 14 22 rfl rfl ?_
        refine im_goto 15 23 27 rfl (by decide) ?_
        exact im_less _ (by simp [lv_le]) (hj27 (1 : Int32))

set_option maxRecDepth 100000 in
set_option maxHeartbeats 4000000 in
theorem ip_L_countDead (G : gl_T) (t : Nat) (a1 : Nat) (M : mm_T) : im_I mi_L_countDead 5 107 G M (sh_i M) (ff_L_countDead t a1 M) 0 [some (.ref t), some (.ref a1), none, none] [] M := by
  unfold ff_L_countDead
  refine im_gd (fun hg => ?_)
  refine im_iconst 0 0 rfl rfl ?_
  refine im_istore_n 1 1 [some (.ref t), some (.ref a1), some (.int (0 : Int32)), none] rfl rfl rfl ?_
  refine im_iconst 2 2 rfl rfl ?_
  refine im_istore_n 3 3 [some (.ref t), some (.ref a1), some (.int (0 : Int32)), some (.int (0 : Int32))] rfl rfl rfl ?_
  refine im_less [some (.ref t), some (.ref a1), some (.int (0 : Int32)), some (.int (0 : Int32))] (by simp [lv_le]) ?_
  exact li_L_countDead_4 G t a1 M fu_L (0 : Int32) (0 : Int32)

theorem sp_L_countDead (G : gl_T) {t : Nat} {a1 : Nat} {M : mm_T} {y : Int32} (h : ff_L_countDead t a1 M = some y) : sp_S mi_L_countDead 5 107 G [.ref t, .ref a1] M ((sh_i M) y).1 ((sh_i M) y).2 := sp_of mo_L_countDead mw_L_countDead (Or.inl (by decide +kernel)) rfl rfl (Or.inl rfl) (ip_L_countDead G t a1 M y h)

set_option maxRecDepth 100000 in
set_option maxHeartbeats 4000000 in
theorem ip_D_deadDefinitions (G : gl_T) (t : Nat) (M : mm_T) : im_I mi_D_deadDefinitions 7 156 G M sw_i (ff_D_deadDefinitions t M) 0 [some (.ref t)] [] M := by
  unfold ff_D_deadDefinitions
  refine im_gd (fun hg => ?_)
  refine im_aload_n 0 0 rfl rfl ?_
  refine im_cWr (S := []) (fun _ _ hv => cpV (fr' := 6) (lo' := 136) (i := 1) (As := []) (S := []) (a := t) (c := 10) rfl lk_D_225 mw_D_liveness mv_D_liveness rfl ⟨by decide, rfl⟩ rfl rfl rfl (gd_some hv).1 (sp_D_liveness G hv)) (fun x1 M1 => ?_)
  refine im_aload_n 2 4 rfl rfl ?_
  refine im_getR 3 5 rfl fd_D_87 (by decide +kernel) (fun x2 => ?_)
  refine im_ci (S := []) (fun _ hv => cpV (fr' := 5) (lo' := 107) (i := 4) (As := [.ref x2]) (S := []) (a := x1) (c := 4) rfl lk_D_242 mw_L_countDead mv_L_countDead rfl ⟨by decide, rfl⟩ rfl rfl rfl (gd_some hv).1 (sp_L_countDead G hv)) (fun x3 => ?_)
  exact im_end rfl (wp_ireturn 5 11 rfl rfl)

theorem sp_D_deadDefinitions (G : gl_T) {t : Nat} {M : mm_T} {y : Int32 × mm_T} (h : ff_D_deadDefinitions t M = some y) : sp_S mi_D_deadDefinitions 7 156 G [.ref t] M (sw_i y).1 (sw_i y).2 := sp_of mo_D_deadDefinitions mw_D_deadDefinitions (Or.inl (by decide +kernel)) rfl rfl (Or.inl rfl) (ip_D_deadDefinitions G t M y h)

set_option maxRecDepth 100000 in
set_option maxHeartbeats 4000000 in
theorem ip_JM_max (G : gl_T) (a1 : Int32) (a2 : Int32) (M : mm_T) : im_I mi_JM_max 1 20 G M (sh_i M) (ff_JM_max a1 a2 M) 0 [some (.int a1), some (.int a2)] [] M := by
  unfold ff_JM_max
  refine im_iload_n 0 0 rfl rfl ?_
  refine im_iload_n 1 1 rfl rfl ?_
  refine im_ic_lt 2 2 9 rfl (by decide) ?_ ?_
  · refine im_iload_n 5 9 rfl rfl ?_
    exact im_end rfl (wp_ireturn 6 10 rfl rfl)
  · refine im_iload_n 3 5 rfl rfl ?_
    refine im_goto 4 6 10 rfl (by decide) ?_
    exact im_end rfl (wp_ireturn 6 10 rfl rfl)

theorem sp_JM_max (G : gl_T) {a1 : Int32} {a2 : Int32} {M : mm_T} {y : Int32} (h : ff_JM_max a1 a2 M = some y) : sp_S mi_JM_max 1 20 G [.int a1, .int a2] M ((sh_i M) y).1 ((sh_i M) y).2 := sp_of mo_JM_max mw_JM_max (Or.inr ⟨rfl, _, rfl⟩) rfl rfl (Or.inl rfl) (ip_JM_max G a1 a2 M y h)

set_option maxRecDepth 100000 in
set_option maxHeartbeats 4000000 in
theorem li_L_largestSet_4 (G : gl_T) (p0 : Nat) (M : mm_T) : ∀ (fu : Nat) (q1 : Int32) (q2 : Int32), im_I mi_L_largestSet 2 41 G M (sh_i M) (lf_L_largestSet_4 p0 M fu q1 q2) 4 [some (.ref p0), some (.int q1), some (.int q2)] [] M := by
  intro fu
  induction fu with
  | zero => intro _ _; exact im_none
  | succ fu ih =>
    intro q1 q2
    show im_I mi_L_largestSet 2 41 G M (sh_i M) (lb_L_largestSet_4 p0 M (lf_L_largestSet_4 p0 M fu) q1 q2) 4 [some (.ref p0), some (.int q1), some (.int q2)] [] M
    unfold lb_L_largestSet_4
    refine im_iload_n 4 4 rfl rfl ?_
    refine im_bipush 5 5 rfl rfl ?_
    refine im_ic_ge 6 7 32 rfl (by decide) ?_ ?_
    · refine im_iload_n 17 32 rfl rfl ?_
      exact im_end rfl (wp_ireturn 18 33 rfl rfl)
    · refine im_iload_n 7 10 rfl rfl ?_
      refine im_aload_n 8 11 rfl rfl ?_
      refine im_getR 9 12 rfl fd_L_9 (by decide +kernel) (fun x1 => ?_)
      refine im_iload_n 10 15 rfl rfl ?_
      refine im_ci (S := [.int q1]) (fun _ hv => cpS (fr' := 1) (lo' := 20) (i := 11) (As := [.ref x1, .int q2]) (S := [.int q1]) rfl lk_L_37 mw_D_at_a mv_D_at_a rfl rfl rfl rfl (sp_D_at_a G hv)) (fun x2 => ?_)
      refine im_ci (S := [.int q1]) (fun _ hv => cpS (fr' := 1) (lo' := 20) (i := 12) (As := [.int x2]) (S := [.int q1]) rfl lk_L_56 mw_JI_bitCount mv_JI_bitCount rfl rfl rfl rfl (sp_JI_bitCount G hv)) (fun x3 => ?_)
      refine im_ci (S := []) (fun _ hv => cpS (fr' := 1) (lo' := 20) (i := 13) (As := [.int q1, .int x3]) (S := []) rfl lk_L_61 mw_JM_max mv_JM_max rfl rfl rfl rfl (sp_JM_max G hv)) (fun x4 => ?_)
      refine im_istore_n 14 25 [some (.ref p0), some (.int x4), some (.int q2)] rfl rfl rfl ?_
      refine im_iincL 15 26 (fun x5 => [some (.ref p0), some (.int x4), some (.int x5)]) rfl rfl rfl rfl (fun _ => rfl) (fun x5 => ?_)
      refine im_goto 16 29 4 rfl (by decide) ?_
      exact im_less _ (by simp [lv_le]) (ih x4 x5)

set_option maxRecDepth 100000 in
set_option maxHeartbeats 4000000 in
theorem ip_L_largestSet (G : gl_T) (t : Nat) (M : mm_T) : im_I mi_L_largestSet 2 41 G M (sh_i M) (ff_L_largestSet t M) 0 [some (.ref t), none, none] [] M := by
  unfold ff_L_largestSet
  refine im_gd (fun hg => ?_)
  refine im_iconst 0 0 rfl rfl ?_
  refine im_istore_n 1 1 [some (.ref t), some (.int (0 : Int32)), none] rfl rfl rfl ?_
  refine im_iconst 2 2 rfl rfl ?_
  refine im_istore_n 3 3 [some (.ref t), some (.int (0 : Int32)), some (.int (0 : Int32))] rfl rfl rfl ?_
  refine im_less [some (.ref t), some (.int (0 : Int32)), some (.int (0 : Int32))] (by simp [lv_le]) ?_
  exact li_L_largestSet_4 G t M fu_L (0 : Int32) (0 : Int32)

theorem sp_L_largestSet (G : gl_T) {t : Nat} {M : mm_T} {y : Int32} (h : ff_L_largestSet t M = some y) : sp_S mi_L_largestSet 2 41 G [.ref t] M ((sh_i M) y).1 ((sh_i M) y).2 := sp_of mo_L_largestSet mw_L_largestSet (Or.inl (by decide +kernel)) rfl rfl (Or.inl rfl) (ip_L_largestSet G t M y h)

set_option maxRecDepth 100000 in
set_option maxHeartbeats 4000000 in
theorem ip_D_pressure (G : gl_T) (t : Nat) (M : mm_T) : im_I mi_D_pressure 7 156 G M sw_i (ff_D_pressure t M) 0 [some (.ref t)] [] M := by
  unfold ff_D_pressure
  refine im_gd (fun hg => ?_)
  refine im_aload_n 0 0 rfl rfl ?_
  refine im_cWr (S := []) (fun _ _ hv => cpV (fr' := 6) (lo' := 136) (i := 1) (As := []) (S := []) (a := t) (c := 10) rfl lk_D_225 mw_D_liveness mv_D_liveness rfl ⟨by decide, rfl⟩ rfl rfl rfl (gd_some hv).1 (sp_D_liveness G hv)) (fun x1 M1 => ?_)
  refine im_ci (S := []) (fun _ hv => cpV (fr' := 2) (lo' := 41) (i := 2) (As := []) (S := []) (a := x1) (c := 4) rfl lk_D_246 mw_L_largestSet mv_L_largestSet rfl ⟨by decide, rfl⟩ rfl rfl rfl (gd_some hv).1 (sp_L_largestSet G hv)) (fun x2 => ?_)
  exact im_end rfl (wp_ireturn 3 7 rfl rfl)

theorem sp_D_pressure (G : gl_T) {t : Nat} {M : mm_T} {y : Int32 × mm_T} (h : ff_D_pressure t M = some y) : sp_S mi_D_pressure 7 156 G [.ref t] M (sw_i y).1 (sw_i y).2 := sp_of mo_D_pressure mw_D_pressure (Or.inl (by decide +kernel)) rfl rfl (Or.inl rfl) (ip_D_pressure G t M y h)

set_option maxRecDepth 100000 in
set_option maxHeartbeats 4000000 in
theorem li_L_clashes_3 (G : gl_T) (p0 : Nat) (p1 : Nat) (p2 : Int32) (p3 : Int32) (M : mm_T) : ∀ (fu : Nat) (q4 : Int32), im_I mi_L_clashes 4 84 G M (sh_i M) (lf_L_clashes_3 p0 p1 p2 p3 M fu q4) 3 [some (.ref p0), some (.ref p1), some (.int p2), some (.int p3), some (.int q4), none] [] M := by
  intro fu
  induction fu with
  | zero => intro _; exact im_none
  | succ fu ih =>
    intro q4
    show im_I mi_L_clashes 4 84 G M (sh_i M) (lb_L_clashes_3 p0 p1 p2 p3 M (lf_L_clashes_3 p0 p1 p2 p3 M fu) q4) 3 [some (.ref p0), some (.ref p1), some (.int p2), some (.int p3), some (.int q4), none] [] M
    unfold lb_L_clashes_3
    refine im_iload 2 3 rfl rfl ?_
    refine im_aload_n 3 5 rfl rfl ?_
    refine im_getI 4 6 rfl fd_L_49 (by decide +kernel) (fun x1 => ?_)
    refine im_ic_ge 5 9 80 rfl (by decide) ?_ ?_
    · refine im_iconst 40 80 rfl rfl ?_
      exact im_end rfl (wp_zreturn 41 81 (ty := .boolean) rfl (by first | exact nz_0 | exact nz_1) rfl)
    · refine im_aload_n 6 12 rfl rfl ?_
      refine im_iload 7 13 rfl rfl ?_
      refine im_ci (S := []) (fun _ hv => cpV (fr' := 2) (lo' := 41) (i := 8) (As := [.int q4]) (S := []) (a := p1) (c := 7) rfl lk_L_67 mw_P_kindAt mv_P_kindAt rfl ⟨by decide, rfl⟩ rfl rfl rfl (gd_some hv).1 (sp_P_kindAt G hv)) (fun x2 => ?_)
      refine im_iconst 9 18 rfl rfl ?_
      refine im_jp (fun j38 => ∀ (x3 : Int32), im_I mi_L_clashes 4 84 G M (sh_i M) (j38 x3) 38 [some (.ref p0), some (.ref p1), some (.int p2), some (.int p3), some (.int q4), none] [.int x3] M) ?_ (fun j38 hj38 => ?_)
      · intro x3
        show im_I mi_L_clashes 4 84 G M (sh_i M) (_) 38 [some (.ref p0), some (.ref p1), some (.int p2), some (.int p3), some (.int q4), none] [.int x3] M
        refine im_istore 20 38 [some (.ref p0), some (.ref p1), some (.int p2), some (.int p3), some (.int q4), some (.int x3)] rfl rfl rfl ?_
        refine im_aload_n 21 40 rfl rfl ?_
        refine im_iload 22 41 rfl rfl ?_
        refine im_ci (S := []) (fun _ hv => cpV (fr' := 3) (lo' := 62) (i := 23) (As := [.int q4]) (S := []) (a := p1) (c := 7) rfl lk_L_41 mw_P_definedAt mv_P_definedAt rfl ⟨by decide, rfl⟩ rfl rfl rfl (gd_some hv).1 (sp_P_definedAt G hv)) (fun x4 => ?_)
        refine im_iload_n 24 46 rfl rfl ?_
        refine im_jp (fun j74 => im_I mi_L_clashes 4 84 G M (sh_i M) (j74) 74 [some (.ref p0), some (.ref p1), some (.int p2), some (.int p3), some (.int q4), none] [] M) ?_ (fun j74 hj74 => ?_)
        · show im_I mi_L_clashes 4 84 G M (sh_i M) (_) 74 [some (.ref p0), some (.ref p1), some (.int p2), some (.int p3), some (.int q4), none] [] M
          refine im_iincL 38 74 (fun x5 => [some (.ref p0), some (.ref p1), some (.int p2), some (.int p3), some (.int x5), none]) rfl rfl rfl rfl (fun _ => rfl) (fun x5 => ?_)
          refine im_goto 39 77 3 rfl (by decide) ?_
          exact im_less _ (by simp [lv_le]) (ih x5)
        refine im_ic_ne 25 47 74 rfl (by decide) ?_ ?_
        · exact im_less _ (by simp [lv_le]) (hj74)
        · refine im_iload 26 50 rfl rfl ?_
          refine im_if_ne 27 52 74 rfl (by decide) ?_ ?_
          · exact im_less _ (by simp [lv_le]) (hj74)
          · refine im_aload_n 28 55 rfl rfl ?_
            refine im_getR 29 56 rfl fd_L_15 (by decide +kernel) (fun x6 => ?_)
            refine im_iload 30 59 rfl rfl ?_
            refine im_ci (S := []) (fun _ hv => cpS (fr' := 1) (lo' := 20) (i := 31) (As := [.ref x6, .int q4]) (S := []) rfl lk_L_37 mw_D_at_a mv_D_at_a rfl rfl rfl rfl (sp_D_at_a G hv)) (fun x7 => ?_)
            refine im_i2l 32 64 rfl ?_
            refine im_iload_n 33 65 rfl rfl ?_
            refine im_ci (S := []) (fun _ hv => cpS (fr' := 1) (lo' := 20) (i := 34) (As := [.long ((x7).toInt64), .int p3]) (S := []) rfl lk_L_45 mw_D_hasBit mv_D_hasBit rfl rfl rfl rfl (sp_D_hasBit G hv)) (fun x8 => ?_)
            refine im_if_eq 35 69 74 rfl (by decide) ?_ ?_
            · exact im_less _ (by simp [lv_le]) (hj74)
            · refine im_iconst 36 72 rfl rfl ?_
              exact im_end rfl (wp_zreturn 37 73 (ty := .boolean) rfl (by first | exact nz_0 | exact nz_1) rfl)
      refine im_jp (fun j37 => im_I mi_L_clashes 4 84 G M (sh_i M) (j37) 37 [some (.ref p0), some (.ref p1), some (.int p2), some (.int p3), some (.int q4), none] [] M) ?_ (fun j37 hj37 => ?_)
      · show im_I mi_L_clashes 4 84 G M (sh_i M) (_) 37 [some (.ref p0), some (.ref p1), some (.int p2), some (.int p3), some (.int q4), none] [] M
        refine im_iconst 19 37 rfl rfl ?_
        exact im_less _ (by simp [lv_le]) (hj38 (0 : Int32))
      refine im_ic_ne 10 19 37 rfl (by decide) ?_ ?_
      · exact im_less _ (by simp [lv_le]) (hj37)
      · refine im_aload_n 11 22 rfl rfl ?_
        refine im_iload 12 23 rfl rfl ?_
        refine im_iconst 13 25 rfl rfl ?_
        refine im_ci (S := []) (fun _ hv => cpV (fr' := 2) (lo' := 41) (i := 14) (As := [.int q4, .int (0 : Int32)]) (S := []) (a := p1) (c := 7) rfl lk_L_70 mw_P_operandAt mv_P_operandAt rfl ⟨by decide, rfl⟩ rfl rfl rfl (gd_some hv).1 (sp_P_operandAt G hv)) (fun x9 => ?_)
        refine im_iload_n 15 29 rfl rfl ?_
        refine im_ic_ne 16 30 37 rfl (by decide) ?_ ?_
        · exact im_less _ (by simp [lv_le]) (hj37)
        · refine im_iconst 17 33 rfl rfl ?_
          refine im_goto 18 34 38 rfl (by decide) ?_
          exact im_less _ (by simp [lv_le]) (hj38 (1 : Int32))

set_option maxRecDepth 100000 in
set_option maxHeartbeats 4000000 in
theorem ip_L_clashes (G : gl_T) (t : Nat) (a1 : Nat) (a2 : Int32) (a3 : Int32) (M : mm_T) : im_I mi_L_clashes 4 84 G M (sh_i M) (ff_L_clashes t a1 a2 a3 M) 0 [some (.ref t), some (.ref a1), some (.int a2), some (.int a3), none, none] [] M := by
  unfold ff_L_clashes
  refine im_gd (fun hg => ?_)
  refine im_iconst 0 0 rfl rfl ?_
  refine im_istore 1 1 [some (.ref t), some (.ref a1), some (.int a2), some (.int a3), some (.int (0 : Int32)), none] rfl rfl rfl ?_
  refine im_less [some (.ref t), some (.ref a1), some (.int a2), some (.int a3), some (.int (0 : Int32)), none] (by simp [lv_le]) ?_
  exact li_L_clashes_3 G t a1 a2 a3 M fu_L (0 : Int32)

theorem sp_L_clashes (G : gl_T) {t : Nat} {a1 : Nat} {a2 : Int32} {a3 : Int32} {M : mm_T} {y : Int32} (h : ff_L_clashes t a1 a2 a3 M = some y) : sp_S mi_L_clashes 4 84 G [.ref t, .ref a1, .int a2, .int a3] M ((sh_i M) y).1 ((sh_i M) y).2 := sp_of mo_L_clashes mw_L_clashes (Or.inl (by decide +kernel)) rfl rfl (Or.inl rfl) (ip_L_clashes G t a1 a2 a3 M y h)

set_option maxRecDepth 100000 in
set_option maxHeartbeats 4000000 in
theorem ip_D_interfere (G : gl_T) (t : Nat) (a1 : Int32) (a2 : Int32) (M : mm_T) : im_I mi_D_interfere 7 156 G M sX_i (ff_D_interfere t a1 a2 M) 0 [some (.ref t), some (.int a1), some (.int a2)] [] M := by
  unfold ff_D_interfere
  refine im_gd (fun hg => ?_)
  refine im_iload_n 0 0 rfl rfl ?_
  refine im_rq (S := []) (fun hv => cpS (fr' := 6) (lo' := 90) (i := 1) (As := [.int a1]) (S := []) rfl lk_D_199 mw_D_requireVariable mv_D_requireVariable rfl rfl rfl rfl (sp_D_requireVariable G hv)) (fun _ hv => xpS (fr' := 6) (lo' := 90) (i := 1) (As := [.int a1]) (S := []) rfl lm_D_199 mw_D_requireVariable mv_D_requireVariable rfl rfl rfl rfl (sp_D_requireVariable G hv) (tw_out rfl)) (fun _ => rfl) ?_
  refine im_iload_n 2 4 rfl rfl ?_
  refine im_rq (S := []) (fun hv => cpS (fr' := 6) (lo' := 90) (i := 3) (As := [.int a2]) (S := []) rfl lk_D_199 mw_D_requireVariable mv_D_requireVariable rfl rfl rfl rfl (sp_D_requireVariable G hv)) (fun _ hv => xpS (fr' := 6) (lo' := 90) (i := 3) (As := [.int a2]) (S := []) rfl lm_D_199 mw_D_requireVariable mv_D_requireVariable rfl rfl rfl rfl (sp_D_requireVariable G hv) (tw_out rfl)) (fun _ => rfl) ?_
  refine im_iload_n 4 8 rfl rfl ?_
  refine im_iload_n 5 9 rfl rfl ?_
  refine im_ic_ne 6 10 15 rfl (by decide) ?_ ?_
  · refine im_aload_n 9 15 rfl rfl ?_
    refine im_cWr (S := []) (fun _ _ hv => cpV (fr' := 6) (lo' := 136) (i := 10) (As := []) (S := []) (a := t) (c := 10) rfl lk_D_225 mw_D_liveness mv_D_liveness rfl ⟨by decide, rfl⟩ rfl rfl rfl (gd_some hv).1 (sp_D_liveness G hv)) (fun x1 M1 => ?_)
    refine im_aload_n 11 19 rfl rfl ?_
    refine im_getR 12 20 rfl fd_D_87 (by decide +kernel) (fun x2 => ?_)
    refine im_iload_n 13 23 rfl rfl ?_
    refine im_iload_n 14 24 rfl rfl ?_
    refine im_ci (S := []) (fun _ hv => cpV (fr' := 4) (lo' := 84) (i := 15) (As := [.ref x2, .int a1, .int a2]) (S := []) (a := x1) (c := 4) rfl lk_D_249 mw_L_clashes mv_L_clashes rfl ⟨by decide, rfl⟩ rfl rfl rfl (gd_some hv).1 (sp_L_clashes G hv)) (fun x3 => ?_)
    refine im_jp (fun j47 => ∀  (M2 : mm_T), im_I mi_D_interfere 7 156 G M sX_i (j47 M2) 47 [none, none, none] [] M2) ?_ (fun j47 hj47 => ?_)
    · intro M2
      show im_I mi_D_interfere 7 156 G M sX_i (_) 47 [none, none, none] [] M2
      refine im_iconst 25 47 rfl rfl ?_
      refine im_goto 26 48 52 rfl (by decide) ?_
      exact im_end rfl (wp_zreturn 28 52 (ty := .boolean) rfl (by first | exact nz_0 | exact nz_1) rfl)
    refine im_if_ne 16 28 47 rfl (by decide) ?_ ?_
    · exact im_less _ (by simp [lv_le]) (hj47 M1)
    · refine im_aload_n 17 31 rfl rfl ?_
      refine im_cWr (S := []) (fun _ _ hv => cpV (fr' := 6) (lo' := 136) (i := 18) (As := []) (S := []) (a := t) (c := 10) rfl lk_D_225 mw_D_liveness mv_D_liveness rfl ⟨by decide, rfl⟩ rfl rfl rfl (gd_some hv).1 (sp_D_liveness G hv)) (fun x4 M3 => ?_)
      refine im_aload_n 19 35 rfl rfl ?_
      refine im_getR 20 36 rfl fd_D_87 (by decide +kernel) (fun x5 => ?_)
      refine im_iload_n 21 39 rfl rfl ?_
      refine im_iload_n 22 40 rfl rfl ?_
      refine im_ci (S := []) (fun _ hv => cpV (fr' := 4) (lo' := 84) (i := 23) (As := [.ref x5, .int a2, .int a1]) (S := []) (a := x4) (c := 4) rfl lk_D_249 mw_L_clashes mv_L_clashes rfl ⟨by decide, rfl⟩ rfl rfl rfl (gd_some hv).1 (sp_L_clashes G hv)) (fun x6 => ?_)
      refine im_if_eq 24 44 51 rfl (by decide) ?_ ?_
      · refine im_iconst 27 51 rfl rfl ?_
        exact im_end rfl (wp_zreturn 28 52 (ty := .boolean) rfl (by first | exact nz_0 | exact nz_1) rfl)
      · exact im_less _ (by simp [lv_le]) (hj47 M3)
  · refine im_iconst 7 13 rfl rfl ?_
    exact im_end rfl (wp_zreturn 8 14 (ty := .boolean) rfl (by first | exact nz_0 | exact nz_1) rfl)

theorem sp_D_interfere (G : gl_T) {t : Nat} {a1 : Int32} {a2 : Int32} {M : mm_T} {y : (Int32 ⊕ String) × mm_T} (h : ff_D_interfere t a1 a2 M = some y) : sp_S mi_D_interfere 7 156 G [.ref t, .int a1, .int a2] M (sX_i y).1 (sX_i y).2 := sp_of mo_D_interfere mw_D_interfere (Or.inl (by decide +kernel)) rfl rfl (Or.inl rfl) (ip_D_interfere G t a1 a2 M y h)

set_option maxRecDepth 100000 in
set_option maxHeartbeats 4000000 in
theorem ip_P_word (G : gl_T) (t : Nat) (a1 : Int32) (M : mm_T) : im_I mi_P_word 2 41 G M (sh_i M) (ff_P_word t a1 M) 0 [some (.ref t), some (.int a1)] [] M := by
  unfold ff_P_word
  refine im_gd (fun hg => ?_)
  refine im_aload_n 0 0 rfl rfl ?_
  refine im_getR 1 1 rfl fd_P_9 (by decide +kernel) (fun x1 => ?_)
  refine im_iload_n 2 4 rfl rfl ?_
  refine im_ci (S := []) (fun _ hv => cpS (fr' := 1) (lo' := 20) (i := 3) (As := [.ref x1, .int a1]) (S := []) rfl lk_P_41 mw_D_at_a mv_D_at_a rfl rfl rfl rfl (sp_D_at_a G hv)) (fun x2 => ?_)
  exact im_end rfl (wp_ireturn 4 8 rfl rfl)

theorem sp_P_word (G : gl_T) {t : Nat} {a1 : Int32} {M : mm_T} {y : Int32} (h : ff_P_word t a1 M = some y) : sp_S mi_P_word 2 41 G [.ref t, .int a1] M ((sh_i M) y).1 ((sh_i M) y).2 := sp_of mo_P_word mw_P_word (Or.inl (by decide +kernel)) rfl rfl (Or.inl rfl) (ip_P_word G t a1 M y h)

set_option maxRecDepth 100000 in
set_option maxHeartbeats 4000000 in
theorem ip_O_expression (G : gl_T) (a1 : Int32) (M : mm_T) : im_I mi_O_expression 1 20 G M (sh_i M) (ff_O_expression a1 M) 0 [some (.int a1)] [] M := by
  unfold ff_O_expression
  refine im_iload_n 0 0 rfl rfl ?_
  refine im_iconst 1 1 rfl rfl ?_
  refine im_iushr 2 2 rfl ?_
  refine im_sipush 3 3 rfl rfl ?_
  refine im_iand 4 6 rfl ?_
  exact im_end rfl (wp_ireturn 5 7 rfl rfl)

theorem sp_O_expression (G : gl_T) {a1 : Int32} {M : mm_T} {y : Int32} (h : ff_O_expression a1 M = some y) : sp_S mi_O_expression 1 20 G [.int a1] M ((sh_i M) y).1 ((sh_i M) y).2 := sp_of mo_O_expression mw_O_expression (Or.inl (by decide +kernel)) rfl rfl (Or.inl rfl) (ip_O_expression G a1 M y h)

set_option maxRecDepth 100000 in
set_option maxHeartbeats 4000000 in
theorem li_A_firstWith_2 (G : gl_T) (p0 : Nat) (p1 : Int32) (M : mm_T) : ∀ (fu : Nat) (q2 : Int32), im_I mi_A_firstWith 3 62 G M (sh_i M) (lf_A_firstWith_2 p0 p1 M fu q2) 2 [some (.ref p0), some (.int p1), some (.int q2)] [] M := by
  intro fu
  induction fu with
  | zero => intro _; exact im_none
  | succ fu ih =>
    intro q2
    show im_I mi_A_firstWith 3 62 G M (sh_i M) (lb_A_firstWith_2 p0 p1 M (lf_A_firstWith_2 p0 p1 M fu) q2) 2 [some (.ref p0), some (.int p1), some (.int q2)] [] M
    unfold lb_A_firstWith_2
    refine im_iload_n 2 2 rfl rfl ?_
    refine im_aload_n 3 3 rfl rfl ?_
    refine im_getI 4 4 rfl fd_A_63 (by decide +kernel) (fun x1 => ?_)
    refine im_ic_ge 5 7 39 rfl (by decide) ?_ ?_
    · refine im_iconst 21 39 rfl rfl ?_
      exact im_end rfl (wp_ireturn 22 40 rfl rfl)
    · refine im_aload_n 6 10 rfl rfl ?_
      refine im_iload_n 7 11 rfl rfl ?_
      refine im_ci (S := []) (fun _ hv => cpV (fr' := 2) (lo' := 41) (i := 8) (As := [.int q2]) (S := []) (a := p0) (c := 7) rfl lk_A_70 mw_P_kindAt mv_P_kindAt rfl ⟨by decide, rfl⟩ rfl rfl rfl (gd_some hv).1 (sp_P_kindAt G hv)) (fun x2 => ?_)
      refine im_iconst 9 15 rfl rfl ?_
      refine im_jp (fun j33 => im_I mi_A_firstWith 3 62 G M (sh_i M) (j33) 33 [some (.ref p0), some (.int p1), some (.int q2)] [] M) ?_ (fun j33 hj33 => ?_)
      · show im_I mi_A_firstWith 3 62 G M (sh_i M) (_) 33 [some (.ref p0), some (.int p1), some (.int q2)] [] M
        refine im_iincL 19 33 (fun x3 => [some (.ref p0), some (.int p1), some (.int x3)]) rfl rfl rfl rfl (fun _ => rfl) (fun x3 => ?_)
        refine im_goto 20 36 2 rfl (by decide) ?_
        exact im_less _ (by simp [lv_le]) (ih x3)
      refine im_ic_ne 10 16 33 rfl (by decide) ?_ ?_
      · exact im_less _ (by simp [lv_le]) (hj33)
      · refine im_aload_n 11 19 rfl rfl ?_
        refine im_iload_n 12 20 rfl rfl ?_
        refine im_ci (S := []) (fun _ hv => cpV (fr' := 2) (lo' := 41) (i := 13) (As := [.int q2]) (S := []) (a := p0) (c := 7) rfl lk_A_87 mw_P_word mv_P_word rfl ⟨by decide, rfl⟩ rfl rfl rfl (gd_some hv).1 (sp_P_word G hv)) (fun x4 => ?_)
        refine im_ci (S := []) (fun _ hv => cpS (fr' := 1) (lo' := 20) (i := 14) (As := [.int x4]) (S := []) rfl lk_A_90 mw_O_expression mv_O_expression rfl rfl rfl rfl (sp_O_expression G hv)) (fun x5 => ?_)
        refine im_iload_n 15 27 rfl rfl ?_
        refine im_ic_ne 16 28 33 rfl (by decide) ?_ ?_
        · exact im_less _ (by simp [lv_le]) (hj33)
        · refine im_iload_n 17 31 rfl rfl ?_
          exact im_end rfl (wp_ireturn 18 32 rfl rfl)

set_option maxRecDepth 100000 in
set_option maxHeartbeats 4000000 in
theorem ip_A_firstWith (G : gl_T) (a1 : Nat) (a2 : Int32) (M : mm_T) : im_I mi_A_firstWith 3 62 G M (sh_i M) (ff_A_firstWith a1 a2 M) 0 [some (.ref a1), some (.int a2), none] [] M := by
  unfold ff_A_firstWith
  refine im_iconst 0 0 rfl rfl ?_
  refine im_istore_n 1 1 [some (.ref a1), some (.int a2), some (.int (0 : Int32))] rfl rfl rfl ?_
  refine im_less [some (.ref a1), some (.int a2), some (.int (0 : Int32))] (by simp [lv_le]) ?_
  exact li_A_firstWith_2 G a1 a2 M fu_L (0 : Int32)

theorem sp_A_firstWith (G : gl_T) {a1 : Nat} {a2 : Int32} {M : mm_T} {y : Int32} (h : ff_A_firstWith a1 a2 M = some y) : sp_S mi_A_firstWith 3 62 G [.ref a1, .int a2] M ((sh_i M) y).1 ((sh_i M) y).2 := sp_of mo_A_firstWith mw_A_firstWith (Or.inl (by decide +kernel)) rfl rfl (Or.inl rfl) (ip_A_firstWith G a1 a2 M y h)

set_option maxRecDepth 100000 in
set_option maxHeartbeats 4000000 in
theorem ip_A_noteOperand (G : gl_T) (t : Nat) (a1 : Int32) (a2 : Int32) (M : mm_T) : im_I mi_A_noteOperand 2 43 G M sw_v (ff_A_noteOperand t a1 a2 M) 0 [some (.ref t), some (.int a1), some (.int a2)] [] M := by
  unfold ff_A_noteOperand
  refine im_gd (fun hg => ?_)
  refine im_aload_n 0 0 rfl rfl ?_
  refine im_getR 1 1 rfl fd_A_15 (by decide +kernel) (fun x1 => ?_)
  refine im_iload_n 2 4 rfl rfl ?_
  refine im_aload_n 3 5 rfl rfl ?_
  refine im_getR 4 6 rfl fd_A_15 (by decide +kernel) (fun x2 => ?_)
  refine im_iload_n 5 9 rfl rfl ?_
  refine im_cj (S := [.int a1, .ref x1]) (fun _ hv => cpS (fr' := 1) (lo' := 20) (i := 6) (As := [.ref x2, .int a1]) (S := [.int a1, .ref x1]) rfl lk_A_59 mw_D_at_b mv_D_at_b rfl rfl rfl rfl (sp_D_at_b G hv)) (fun x3 => ?_)
  refine im_lconst 7 13 rfl rfl ?_
  refine im_iload_n 8 14 rfl rfl ?_
  refine im_lshl 9 15 rfl ?_
  refine im_lor 10 16 rfl ?_
  refine im_cWv (S := []) (fun _ hv => cpS (fr' := 1) (lo' := 20) (i := 11) (As := [.ref x1, .int a1, .long (x3 ||| (jo_shl (1 : Int64) a2))]) (S := []) rfl lk_A_43 mw_D_put_b mv_D_put_b rfl rfl rfl rfl (sp_D_put_b G hv)) (fun M1 => ?_)
  exact im_end rfl (wp_return 12 20 rfl rfl)

theorem sp_A_noteOperand (G : gl_T) {t : Nat} {a1 : Int32} {a2 : Int32} {M : mm_T} {y : mm_T} (h : ff_A_noteOperand t a1 a2 M = some y) : sp_S mi_A_noteOperand 2 43 G [.ref t, .int a1, .int a2] M (sw_v y).1 (sw_v y).2 := sp_of mo_A_noteOperand mw_A_noteOperand (Or.inl (by decide +kernel)) rfl rfl (Or.inl rfl) (ip_A_noteOperand G t a1 a2 M y h)

set_option maxRecDepth 100000 in
set_option maxHeartbeats 4000000 in
theorem li_A_nameExpressions_18 (G : gl_T) (M0 : mm_T) (p0 : Nat) (p1 : Nat) : ∀ (fu : Nat) (q2 : Int32) (N : mm_T), im_I mi_A_nameExpressions 4 84 G M0 sw_v (lf_A_nameExpressions_18 p0 p1 fu q2 N) 18 [some (.ref p0), some (.ref p1), some (.int q2), none] [] N := by
  intro fu
  induction fu with
  | zero => intro _ _; exact im_none
  | succ fu ih =>
    intro q2 N
    show im_I mi_A_nameExpressions 4 84 G M0 sw_v (lb_A_nameExpressions_18 p0 p1 (lf_A_nameExpressions_18 p0 p1 fu) q2 N) 18 [some (.ref p0), some (.ref p1), some (.int q2), none] [] N
    unfold lb_A_nameExpressions_18
    refine im_iload_n 10 18 rfl rfl ?_
    refine im_aload_n 11 19 rfl rfl ?_
    refine im_getI 12 20 rfl fd_A_63 (by decide +kernel) (fun x3 => ?_)
    refine im_ic_ge 13 23 85 rfl (by decide) ?_ ?_
    · exact im_end rfl (wp_return 47 85 rfl rfl)
    · refine im_aload_n 14 26 rfl rfl ?_
      refine im_iload_n 15 27 rfl rfl ?_
      refine im_ci (S := []) (fun _ hv => cpV (fr' := 2) (lo' := 41) (i := 16) (As := [.int q2]) (S := []) (a := p1) (c := 7) rfl lk_A_70 mw_P_kindAt mv_P_kindAt rfl ⟨by decide, rfl⟩ rfl rfl rfl (gd_some hv).1 (sp_P_kindAt G hv)) (fun x4 => ?_)
      refine im_iconst 17 31 rfl rfl ?_
      refine im_jp (fun j79 => ∀  (M3 : mm_T), im_I mi_A_nameExpressions 4 84 G M0 sw_v (j79 M3) 79 [some (.ref p0), some (.ref p1), some (.int q2), none] [] M3) ?_ (fun j79 hj79 => ?_)
      · intro M3
        show im_I mi_A_nameExpressions 4 84 G M0 sw_v (_) 79 [some (.ref p0), some (.ref p1), some (.int q2), none] [] M3
        refine im_iincL 45 79 (fun x5 => [some (.ref p0), some (.ref p1), some (.int x5), none]) rfl rfl rfl rfl (fun _ => rfl) (fun x5 => ?_)
        refine im_goto 46 82 18 rfl (by decide) ?_
        exact im_less _ (by simp [lv_le]) (ih x5 M3)
      refine im_ic_ne 18 32 79 rfl (by decide) ?_ ?_
      · exact im_less _ (by simp [lv_le]) (hj79 N)
      · refine im_aload_n 19 35 rfl rfl ?_
        refine im_aload_n 20 36 rfl rfl ?_
        refine im_iload_n 21 37 rfl rfl ?_
        refine im_ci (S := [.ref p1]) (fun _ hv => cpV (fr' := 2) (lo' := 41) (i := 22) (As := [.int q2]) (S := [.ref p1]) (a := p1) (c := 7) rfl lk_A_87 mw_P_word mv_P_word rfl ⟨by decide, rfl⟩ rfl rfl rfl (gd_some hv).1 (sp_P_word G hv)) (fun x6 => ?_)
        refine im_ci (S := [.ref p1]) (fun _ hv => cpS (fr' := 1) (lo' := 20) (i := 23) (As := [.int x6]) (S := [.ref p1]) rfl lk_A_90 mw_O_expression mv_O_expression rfl rfl rfl rfl (sp_O_expression G hv)) (fun x7 => ?_)
        refine im_ci (S := []) (fun _ hv => cpS (fr' := 3) (lo' := 62) (i := 24) (As := [.ref p1, .int x7]) (S := []) rfl lk_A_95 mw_A_firstWith mv_A_firstWith rfl rfl rfl rfl (sp_A_firstWith G hv)) (fun x8 => ?_)
        refine im_istore_n 25 47 [some (.ref p0), some (.ref p1), some (.int q2), some (.int x8)] rfl rfl rfl ?_
        refine im_aload_n 26 48 rfl rfl ?_
        refine im_getR 27 49 rfl fd_A_9 (by decide +kernel) (fun x9 => ?_)
        refine im_iload_n 28 52 rfl rfl ?_
        refine im_iload_n 29 53 rfl rfl ?_
        refine im_cWv (S := []) (fun _ hv => cpS (fr' := 1) (lo' := 20) (i := 30) (As := [.ref x9, .int q2, .int x8]) (S := []) rfl lk_A_99 mw_D_put_a mv_D_put_a rfl rfl rfl rfl (sp_D_put_a G hv)) (fun M4 => ?_)
        refine im_aload_n 31 57 rfl rfl ?_
        refine im_aload_n 32 58 rfl rfl ?_
        refine im_iload_n 33 59 rfl rfl ?_
        refine im_iconst 34 60 rfl rfl ?_
        refine im_ci (S := [.ref p0]) (fun _ hv => cpV (fr' := 2) (lo' := 41) (i := 35) (As := [.int q2, .int (0 : Int32)]) (S := [.ref p0]) (a := p1) (c := 7) rfl lk_A_102 mw_P_operandAt mv_P_operandAt rfl ⟨by decide, rfl⟩ rfl rfl rfl (gd_some hv).1 (sp_P_operandAt G hv)) (fun x10 => ?_)
        refine im_iload_n 36 64 rfl rfl ?_
        refine im_cWv (S := []) (fun _ hv => cpV (fr' := 2) (lo' := 43) (i := 37) (As := [.int x10, .int x8]) (S := []) (a := p0) (c := 0) rfl lk_A_106 mw_A_noteOperand mv_A_noteOperand rfl ⟨by decide, rfl⟩ rfl rfl rfl (gd_some hv).1 (sp_A_noteOperand G hv)) (fun M5 => ?_)
        refine im_aload_n 38 68 rfl rfl ?_
        refine im_aload_n 39 69 rfl rfl ?_
        refine im_iload_n 40 70 rfl rfl ?_
        refine im_iconst 41 71 rfl rfl ?_
        refine im_ci (S := [.ref p0]) (fun _ hv => cpV (fr' := 2) (lo' := 41) (i := 42) (As := [.int q2, .int (1 : Int32)]) (S := [.ref p0]) (a := p1) (c := 7) rfl lk_A_102 mw_P_operandAt mv_P_operandAt rfl ⟨by decide, rfl⟩ rfl rfl rfl (gd_some hv).1 (sp_P_operandAt G hv)) (fun x11 => ?_)
        refine im_iload_n 43 75 rfl rfl ?_
        refine im_cWv (S := []) (fun _ hv => cpV (fr' := 2) (lo' := 43) (i := 44) (As := [.int x11, .int x8]) (S := []) (a := p0) (c := 0) rfl lk_A_106 mw_A_noteOperand mv_A_noteOperand rfl ⟨by decide, rfl⟩ rfl rfl rfl (gd_some hv).1 (sp_A_noteOperand G hv)) (fun M6 => ?_)
        exact im_less _ (by simp [lv_le]) (hj79 M6)

set_option maxRecDepth 100000 in
set_option maxHeartbeats 4000000 in
theorem ip_A_nameExpressions (G : gl_T) (t : Nat) (a1 : Nat) (M : mm_T) : im_I mi_A_nameExpressions 4 84 G M sw_v (ff_A_nameExpressions t a1 M) 0 [some (.ref t), some (.ref a1), none, none] [] M := by
  unfold ff_A_nameExpressions
  refine im_gd (fun hg => ?_)
  refine im_aload_n 0 0 rfl rfl ?_
  refine im_getR 1 1 rfl fd_A_9 (by decide +kernel) (fun x1 => ?_)
  refine im_iconst 2 4 rfl rfl ?_
  refine im_cWv (S := []) (fun _ hv => cpS (fr' := 1) (lo' := 20) (i := 3) (As := [.ref x1, .int (-1 : Int32)]) (S := []) rfl lk_A_80 mw_D_fill_a mv_D_fill_a rfl rfl rfl rfl (sp_D_fill_a G hv)) (fun M1 => ?_)
  refine im_aload_n 4 8 rfl rfl ?_
  refine im_getR 5 9 rfl fd_A_15 (by decide +kernel) (fun x2 => ?_)
  refine im_lconst 6 12 rfl rfl ?_
  refine im_cWv (S := []) (fun _ hv => cpS (fr' := 1) (lo' := 20) (i := 7) (As := [.ref x2, .long (0 : Int64)]) (S := []) rfl lk_A_84 mw_D_fill_b mv_D_fill_b rfl rfl rfl rfl (sp_D_fill_b G hv)) (fun M2 => ?_)
  refine im_iconst 8 16 rfl rfl ?_
  refine im_istore_n 9 17 [some (.ref t), some (.ref a1), some (.int (0 : Int32)), none] rfl rfl rfl ?_
  refine im_less [some (.ref t), some (.ref a1), some (.int (0 : Int32)), none] (by simp [lv_le]) ?_
  exact li_A_nameExpressions_18 G M t a1 fu_L (0 : Int32) M2

theorem sp_A_nameExpressions (G : gl_T) {t : Nat} {a1 : Nat} {M : mm_T} {y : mm_T} (h : ff_A_nameExpressions t a1 M = some y) : sp_S mi_A_nameExpressions 4 84 G [.ref t, .ref a1] M (sw_v y).1 (sw_v y).2 := sp_of mo_A_nameExpressions mw_A_nameExpressions (Or.inl (by decide +kernel)) rfl rfl (Or.inl rfl) (ip_A_nameExpressions G t a1 M y h)

set_option maxRecDepth 100000 in
set_option maxHeartbeats 4000000 in
theorem li_A_flow_66 (G : gl_T) (M0 : mm_T) (p0 : Nat) (p1 : Nat) (p2 : Int32) (p3 : Int64) : ∀ (fu : Nat) (q6 : Int32) (q7 : Int32) (N : mm_T), im_I mi_A_flow 4 86 G M0 sw_i (lf_A_flow_66 p0 p1 p2 p3 fu q6 q7 N) 66 [some (.ref p0), some (.ref p1), some (.int p2), some (.long p3), none, none, some (.int q6), some (.int q7), none, none, none] [] N := by
  intro fu
  induction fu with
  | zero => intro _ _ _; exact im_none
  | succ fu ih =>
    intro q6 q7 N
    show im_I mi_A_flow 4 86 G M0 sw_i (lb_A_flow_66 p0 p1 p2 p3 (lf_A_flow_66 p0 p1 p2 p3 fu) q6 q7 N) 66 [some (.ref p0), some (.ref p1), some (.int p2), some (.long p3), none, none, some (.int q6), some (.int q7), none, none, none] [] N
    unfold lb_A_flow_66
    refine im_iload 39 66 rfl rfl ?_
    refine im_aload_n 40 68 rfl rfl ?_
    refine im_iload_n 41 69 rfl rfl ?_
    refine im_ci (S := [.int q7]) (fun _ hv => cpV (fr' := 2) (lo' := 41) (i := 42) (As := [.int p2]) (S := [.int q7]) (a := p1) (c := 7) rfl lk_A_113 mw_P_nextCount mv_P_nextCount rfl ⟨by decide, rfl⟩ rfl rfl rfl (gd_some hv).1 (sp_P_nextCount G hv)) (fun x7 => ?_)
    refine im_ic_ge 43 73 142 rfl (by decide) ?_ ?_
    · refine im_iload 76 142 rfl rfl ?_
      exact im_endZ (fun _ => rfl) (fun hn => wp_zreturn 77 144 (ty := .boolean) rfl hn rfl)
    · refine im_aload_n 44 76 rfl rfl ?_
      refine im_iload_n 45 77 rfl rfl ?_
      refine im_iload 46 78 rfl rfl ?_
      refine im_ci (S := []) (fun _ hv => cpV (fr' := 3) (lo' := 63) (i := 47) (As := [.int p2, .int q7]) (S := []) (a := p1) (c := 7) rfl lk_A_116 mw_P_nextPoint mv_P_nextPoint rfl ⟨by decide, rfl⟩ rfl rfl rfl (gd_some hv).1 (sp_P_nextPoint G hv)) (fun x8 => ?_)
      refine im_istore 48 83 [some (.ref p0), some (.ref p1), some (.int p2), some (.long p3), none, none, some (.int q6), some (.int q7), some (.int x8), none, none] rfl rfl rfl ?_
      refine im_aload_n 49 85 rfl rfl ?_
      refine im_getR 50 86 rfl fd_A_19 (by decide +kernel) (fun x9 => ?_)
      refine im_iload 51 89 rfl rfl ?_
      refine im_cj (S := []) (fun _ hv => cpS (fr' := 1) (lo' := 20) (i := 52) (As := [.ref x9, .int x8]) (S := []) rfl lk_A_59 mw_D_at_b mv_D_at_b rfl rfl rfl rfl (sp_D_at_b G hv)) (fun x10 => ?_)
      refine im_lload_n 53 94 rfl rfl ?_
      refine im_land 54 95 rfl ?_
      refine im_letJ (fun x11 => ?_)
      refine im_lstore 55 96 [some (.ref p0), some (.ref p1), some (.int p2), some (.long p3), none, none, some (.int q6), some (.int q7), some (.int x8), some (.long x11), none] rfl rfl rfl ?_
      refine im_iload 56 98 rfl rfl ?_
      refine im_jp (fun j123 => ∀ (x12 : Int32), im_I mi_A_flow 4 86 G M0 sw_i (j123 x12) 123 [some (.ref p0), some (.ref p1), some (.int p2), some (.long p3), none, none, none, some (.int q7), some (.int x8), some (.long x11), none] [.int x12] N) ?_ (fun j123 hj123 => ?_)
      · intro x12
        show im_I mi_A_flow 4 86 G M0 sw_i (_) 123 [some (.ref p0), some (.ref p1), some (.int p2), some (.long p3), none, none, none, some (.int q7), some (.int x8), some (.long x11), none] [.int x12] N
        refine im_istore 68 123 [some (.ref p0), some (.ref p1), some (.int p2), some (.long p3), none, none, some (.int x12), some (.int q7), some (.int x8), some (.long x11), none] rfl rfl rfl ?_
        refine im_aload_n 69 125 rfl rfl ?_
        refine im_getR 70 126 rfl fd_A_19 (by decide +kernel) (fun x13 => ?_)
        refine im_iload 71 129 rfl rfl ?_
        refine im_lload 72 131 rfl rfl ?_
        refine im_cWv (S := []) (fun _ hv => cpS (fr' := 1) (lo' := 20) (i := 73) (As := [.ref x13, .int x8, .long x11]) (S := []) rfl lk_A_43 mw_D_put_b mv_D_put_b rfl rfl rfl rfl (sp_D_put_b G hv)) (fun M1 => ?_)
        refine im_iincL 74 136 (fun x14 => [some (.ref p0), some (.ref p1), some (.int p2), some (.long p3), none, none, some (.int x12), some (.int x14), some (.int x8), some (.long x11), none]) rfl rfl rfl rfl (fun _ => rfl) (fun x14 => ?_)
        refine im_goto 75 139 66 rfl (by decide) ?_
        exact im_less _ (by simp [lv_le]) (ih x12 x14 M1)
      refine im_jp (fun j118 => im_I mi_A_flow 4 86 G M0 sw_i (j118) 118 [some (.ref p0), some (.ref p1), some (.int p2), some (.long p3), none, none, none, some (.int q7), some (.int x8), some (.long x11), none] [] N) ?_ (fun j118 hj118 => ?_)
      · show im_I mi_A_flow 4 86 G M0 sw_i (_) 118 [some (.ref p0), some (.ref p1), some (.int p2), some (.long p3), none, none, none, some (.int q7), some (.int x8), some (.long x11), none] [] N
        refine im_iconst 65 118 rfl rfl ?_
        refine im_goto 66 119 123 rfl (by decide) ?_
        exact im_less _ (by simp [lv_le]) (hj123 (1 : Int32))
      refine im_if_ne 57 100 118 rfl (by decide) ?_ ?_
      · exact im_less _ (by simp [lv_le]) (hj118)
      · refine im_lload 58 103 rfl rfl ?_
        refine im_aload_n 59 105 rfl rfl ?_
        refine im_getR 60 106 rfl fd_A_19 (by decide +kernel) (fun x15 => ?_)
        refine im_iload 61 109 rfl rfl ?_
        refine im_cj (S := [.long x11]) (fun _ hv => cpS (fr' := 1) (lo' := 20) (i := 62) (As := [.ref x15, .int x8]) (S := [.long x11]) rfl lk_A_59 mw_D_at_b mv_D_at_b rfl rfl rfl rfl (sp_D_at_b G hv)) (fun x16 => ?_)
        refine im_lcmp 63 114 rfl ?_
        refine im_if_eq 64 115 122 rfl (by decide) ?_ ?_
        · refine im_iconst 67 122 rfl rfl ?_
          exact im_less _ (by simp [lv_le]) (hj123 (0 : Int32))
        · exact im_less _ (by simp [lv_le]) (hj118)

set_option maxRecDepth 100000 in
set_option maxHeartbeats 4000000 in
theorem ip_A_flow (G : gl_T) (t : Nat) (a1 : Nat) (a2 : Int32) (M : mm_T) : im_I mi_A_flow 4 86 G M sw_i (ff_A_flow t a1 a2 M) 0 [some (.ref t), some (.ref a1), some (.int a2), none, none, none, none, none, none, none, none] [] M := by
  unfold ff_A_flow
  refine im_gd (fun hg => ?_)
  refine im_aload_n 0 0 rfl rfl ?_
  refine im_getR 1 1 rfl fd_A_19 (by decide +kernel) (fun x1 => ?_)
  refine im_iload_n 2 4 rfl rfl ?_
  refine im_cj (S := []) (fun _ hv => cpS (fr' := 1) (lo' := 20) (i := 3) (As := [.ref x1, .int a2]) (S := []) rfl lk_A_59 mw_D_at_b mv_D_at_b rfl rfl rfl rfl (sp_D_at_b G hv)) (fun x2 => ?_)
  refine im_lstore_n 4 8 [some (.ref t), some (.ref a1), some (.int a2), some (.long x2), none, none, none, none, none, none, none] rfl rfl rfl ?_
  refine im_aload_n 5 9 rfl rfl ?_
  refine im_iload_n 6 10 rfl rfl ?_
  refine im_ci (S := []) (fun _ hv => cpV (fr' := 2) (lo' := 41) (i := 7) (As := [.int a2]) (S := []) (a := a1) (c := 7) rfl lk_A_70 mw_P_kindAt mv_P_kindAt rfl ⟨by decide, rfl⟩ rfl rfl rfl (gd_some hv).1 (sp_P_kindAt G hv)) (fun x3 => ?_)
  refine im_iconst 8 14 rfl rfl ?_
  refine im_jp (fun j31 => ∀ (x4 : Int64), im_I mi_A_flow 4 86 G M sw_i (j31 x4) 31 [some (.ref t), some (.ref a1), some (.int a2), some (.long x4), none, none, none, none, none, none, none] [] M) ?_ (fun j31 hj31 => ?_)
  · intro x4
    show im_I mi_A_flow 4 86 G M sw_i (_) 31 [some (.ref t), some (.ref a1), some (.int a2), some (.long x4), none, none, none, none, none, none, none] [] M
    refine im_aload_n 19 31 rfl rfl ?_
    refine im_iload_n 20 32 rfl rfl ?_
    refine im_ci (S := []) (fun _ hv => cpV (fr' := 3) (lo' := 62) (i := 21) (As := [.int a2]) (S := []) (a := a1) (c := 7) rfl lk_A_110 mw_P_definedAt mv_P_definedAt rfl ⟨by decide, rfl⟩ rfl rfl rfl (gd_some hv).1 (sp_P_definedAt G hv)) (fun x5 => ?_)
    refine im_istore 22 36 [some (.ref t), some (.ref a1), some (.int a2), some (.long x4), none, some (.int x5), none, none, none, none, none] rfl rfl rfl ?_
    refine im_iload 23 38 rfl rfl ?_
    refine im_iconst 24 40 rfl rfl ?_
    refine im_jp (fun j60 => ∀ (x6 : Int64), im_I mi_A_flow 4 86 G M sw_i (j60 x6) 60 [some (.ref t), some (.ref a1), some (.int a2), some (.long x6), none, none, none, none, none, none, none] [] M) ?_ (fun j60 hj60 => ?_)
    · intro x6
      show im_I mi_A_flow 4 86 G M sw_i (_) 60 [some (.ref t), some (.ref a1), some (.int a2), some (.long x6), none, none, none, none, none, none, none] [] M
      refine im_iconst 35 60 rfl rfl ?_
      refine im_istore 36 61 [some (.ref t), some (.ref a1), some (.int a2), some (.long x6), none, none, some (.int (0 : Int32)), none, none, none, none] rfl rfl rfl ?_
      refine im_iconst 37 63 rfl rfl ?_
      refine im_istore 38 64 [some (.ref t), some (.ref a1), some (.int a2), some (.long x6), none, none, some (.int (0 : Int32)), some (.int (0 : Int32)), none, none, none] rfl rfl rfl ?_
      refine im_less [some (.ref t), some (.ref a1), some (.int a2), some (.long x6), none, none, some (.int (0 : Int32)), some (.int (0 : Int32)), none, none, none] (by simp [lv_le]) ?_
      exact li_A_flow_66 G M t a1 a2 x6 fu_L (0 : Int32) (0 : Int32) M
    refine im_ic_eq 25 41 60 rfl (by decide) ?_ ?_
    · exact im_less _ (by simp [lv_le]) (hj60 x4)
    · refine im_lload_n 26 44 rfl rfl ?_
      refine im_aload_n 27 45 rfl rfl ?_
      refine im_getR 28 46 rfl fd_A_15 (by decide +kernel) (fun x17 => ?_)
      refine im_iload 29 49 rfl rfl ?_
      refine im_cj (S := [.long x4]) (fun _ hv => cpS (fr' := 1) (lo' := 20) (i := 30) (As := [.ref x17, .int x5]) (S := [.long x4]) rfl lk_A_59 mw_D_at_b mv_D_at_b rfl rfl rfl rfl (sp_D_at_b G hv)) (fun x18 => ?_)
      refine im_ldc2 31 54 (v := (-1 : Int64)) rfl (tb_m 881 (by decide +kernel) rfl) ?_
      refine im_lxor 32 57 rfl ?_
      refine im_land 33 58 rfl ?_
      refine im_letJ (fun x19 => ?_)
      refine im_lstore_n 34 59 [some (.ref t), some (.ref a1), some (.int a2), some (.long x19), none, some (.int x5), none, none, none, none, none] rfl rfl rfl ?_
      exact im_less _ (by simp [lv_le]) (hj60 x19)
  refine im_ic_ne 9 15 31 rfl (by decide) ?_ ?_
  · exact im_less _ (by simp [lv_le]) (hj31 x2)
  · refine im_lload_n 10 18 rfl rfl ?_
    refine im_lconst 11 19 rfl rfl ?_
    refine im_aload_n 12 20 rfl rfl ?_
    refine im_getR 13 21 rfl fd_A_9 (by decide +kernel) (fun x20 => ?_)
    refine im_iload_n 14 24 rfl rfl ?_
    refine im_ci (S := [.long (1 : Int64), .long x2]) (fun _ hv => cpS (fr' := 1) (lo' := 20) (i := 15) (As := [.ref x20, .int a2]) (S := [.long (1 : Int64), .long x2]) rfl lk_A_67 mw_D_at_a mv_D_at_a rfl rfl rfl rfl (sp_D_at_a G hv)) (fun x21 => ?_)
    refine im_lshl 16 28 rfl ?_
    refine im_lor 17 29 rfl ?_
    refine im_letJ (fun x22 => ?_)
    refine im_lstore_n 18 30 [some (.ref t), some (.ref a1), some (.int a2), some (.long x22), none, none, none, none, none, none, none] rfl rfl rfl ?_
    exact im_less _ (by simp [lv_le]) (hj31 x22)

theorem sp_A_flow (G : gl_T) {t : Nat} {a1 : Nat} {a2 : Int32} {M : mm_T} {y : Int32 × mm_T} (h : ff_A_flow t a1 a2 M = some y) : sp_S mi_A_flow 4 86 G [.ref t, .ref a1, .int a2] M (sw_i y).1 (sw_i y).2 := sp_of mo_A_flow mw_A_flow (Or.inl (by decide +kernel)) rfl rfl (Or.inl rfl) (ip_A_flow G t a1 a2 M y h)

set_option maxRecDepth 100000 in
set_option maxHeartbeats 4000000 in
theorem li_A_analyse_7 (G : gl_T) (M0 : mm_T) (k0 : mm_T → Option (mm_T)) (p0 : Nat) (p1 : Nat) (p2 : Nat) (hk0 : ∀ (N : mm_T), im_I mi_A_analyse 5 116 G M0 sw_v (k0 N) 66 [some (.ref p0), some (.ref p1), some (.ref p2), none, none, none] [] N) : ∀ (fu : Nat) (q3 : Int32) (N : mm_T), im_I mi_A_analyse 5 116 G M0 sw_v (lf_A_analyse_7 k0 p0 p1 p2 fu q3 N) 7 [some (.ref p0), some (.ref p1), some (.ref p2), some (.int q3), none, none] [] N := by
  intro fu
  induction fu with
  | zero => intro _ _; exact im_none
  | succ fu ih =>
    intro q3 N
    show im_I mi_A_analyse 5 116 G M0 sw_v (lb_A_analyse_7 k0 p0 p1 p2 (lf_A_analyse_7 k0 p0 p1 p2 fu) q3 N) 7 [some (.ref p0), some (.ref p1), some (.ref p2), some (.int q3), none, none] [] N
    unfold lb_A_analyse_7
    refine im_iload_n 5 7 rfl rfl ?_
    refine im_bipush 6 8 rfl rfl ?_
    refine im_ic_ge 7 10 66 rfl (by decide) ?_ ?_
    · exact im_less _ (by simp [lv_le]) (hk0 N)
    · refine im_aload_n 8 13 rfl rfl ?_
      refine im_iload_n 9 14 rfl rfl ?_
      refine im_ci (S := []) (fun _ hv => cpV (fr' := 1) (lo' := 20) (i := 10) (As := [.int q3]) (S := []) (a := p1) (c := 7) rfl lk_A_26 mw_P_hasPoint mv_P_hasPoint rfl ⟨by decide, rfl⟩ rfl rfl rfl (gd_some hv).1 (sp_P_hasPoint G hv)) (fun x1 => ?_)
      refine im_jp (fun j38 => ∀ (x2 : Int32), im_I mi_A_analyse 5 116 G M0 sw_v (j38 x2) 38 [some (.ref p0), some (.ref p1), some (.ref p2), some (.int q3), none, none] [.int x2] N) ?_ (fun j38 hj38 => ?_)
      · intro x2
        show im_I mi_A_analyse 5 116 G M0 sw_v (_) 38 [some (.ref p0), some (.ref p1), some (.ref p2), some (.int q3), none, none] [.int x2] N
        refine im_istore 21 38 [some (.ref p0), some (.ref p1), some (.ref p2), some (.int q3), some (.int x2), none] rfl rfl rfl ?_
        refine im_aload_n 22 40 rfl rfl ?_
        refine im_getR 23 41 rfl fd_A_19 (by decide +kernel) (fun x3 => ?_)
        refine im_iload_n 24 44 rfl rfl ?_
        refine im_iload 25 45 rfl rfl ?_
        refine im_jp (fun j57 => ∀ (x4 : Int64), im_I mi_A_analyse 5 116 G M0 sw_v (j57 x4) 57 [some (.ref p0), some (.ref p1), some (.ref p2), some (.int q3), none, none] [.long x4, .int q3, .ref x3] N) ?_ (fun j57 hj57 => ?_)
        · intro x4
          show im_I mi_A_analyse 5 116 G M0 sw_v (_) 57 [some (.ref p0), some (.ref p1), some (.ref p2), some (.int q3), none, none] [.long x4, .int q3, .ref x3] N
          refine im_cWv (S := []) (fun _ hv => cpS (fr' := 1) (lo' := 20) (i := 30) (As := [.ref x3, .int q3, .long x4]) (S := []) rfl lk_A_43 mw_D_put_b mv_D_put_b rfl rfl rfl rfl (sp_D_put_b G hv)) (fun M2 => ?_)
          refine im_iincL 31 60 (fun x5 => [some (.ref p0), some (.ref p1), some (.ref p2), some (.int x5), none, none]) rfl rfl rfl rfl (fun _ => rfl) (fun x5 => ?_)
          refine im_goto 32 63 7 rfl (by decide) ?_
          exact im_less _ (by simp [lv_le]) (ih x5 M2)
        refine im_if_eq 26 47 56 rfl (by decide) ?_ ?_
        · refine im_lconst 29 56 rfl rfl ?_
          exact im_less _ (by simp [lv_le]) (hj57 (0 : Int64))
        · refine im_ldc2 27 50 (v := (-1 : Int64)) rfl (tb_m 881 (by decide +kernel) rfl) ?_
          refine im_goto 28 53 57 rfl (by decide) ?_
          exact im_less _ (by simp [lv_le]) (hj57 (-1 : Int64))
      refine im_jp (fun j37 => im_I mi_A_analyse 5 116 G M0 sw_v (j37) 37 [some (.ref p0), some (.ref p1), some (.ref p2), some (.int q3), none, none] [] N) ?_ (fun j37 hj37 => ?_)
      · show im_I mi_A_analyse 5 116 G M0 sw_v (_) 37 [some (.ref p0), some (.ref p1), some (.ref p2), some (.int q3), none, none] [] N
        refine im_iconst 20 37 rfl rfl ?_
        exact im_less _ (by simp [lv_le]) (hj38 (0 : Int32))
      refine im_if_eq 11 18 37 rfl (by decide) ?_ ?_
      · exact im_less _ (by simp [lv_le]) (hj37)
      · refine im_aload_n 12 21 rfl rfl ?_
        refine im_aload_n 13 22 rfl rfl ?_
        refine im_iload_n 14 23 rfl rfl ?_
        refine im_ci (S := [.ref p2]) (fun _ hv => cpV (fr' := 2) (lo' := 41) (i := 15) (As := [.int q3]) (S := [.ref p2]) (a := p1) (c := 7) rfl lk_A_32 mw_P_blockAt mv_P_blockAt rfl ⟨by decide, rfl⟩ rfl rfl rfl (gd_some hv).1 (sp_P_blockAt G hv)) (fun x6 => ?_)
        refine im_ci (S := []) (fun _ hv => cpV (fr' := 2) (lo' := 42) (i := 16) (As := [.int x6]) (S := []) (a := p2) (c := 2) rfl lk_A_36 mw_G_isReached mv_G_isReached rfl ⟨by decide, rfl⟩ rfl rfl rfl (gd_some hv).1 (sp_G_isReached G hv)) (fun x7 => ?_)
        refine im_if_eq 17 30 37 rfl (by decide) ?_ ?_
        · exact im_less _ (by simp [lv_le]) (hj37)
        · refine im_iconst 18 33 rfl rfl ?_
          refine im_goto 19 34 38 rfl (by decide) ?_
          exact im_less _ (by simp [lv_le]) (hj38 (1 : Int32))

set_option maxRecDepth 100000 in
set_option maxHeartbeats 4000000 in
theorem li_A_analyse_100 (G : gl_T) (M0 : mm_T) (k0 : Int32 → mm_T → Option (mm_T)) (p0 : Nat) (p1 : Nat) (p2 : Nat) (p4 : Int32) (hk0 : ∀ (z3 : Int32) (N : mm_T), im_I mi_A_analyse 5 116 G M0 sw_v (k0 z3 N) 147 [some (.ref p0), some (.ref p1), some (.ref p2), some (.int z3), some (.int p4), none] [] N) : ∀ (fu : Nat) (q3 : Int32) (q5 : Int32) (N : mm_T), im_I mi_A_analyse 5 116 G M0 sw_v (lf_A_analyse_100 k0 p0 p1 p2 p4 fu q3 q5 N) 100 [some (.ref p0), some (.ref p1), some (.ref p2), some (.int q3), some (.int p4), some (.int q5)] [] N := by
  intro fu
  induction fu with
  | zero => intro _ _ _; exact im_none
  | succ fu ih =>
    intro q3 q5 N
    show im_I mi_A_analyse 5 116 G M0 sw_v (lb_A_analyse_100 k0 p0 p1 p2 p4 (lf_A_analyse_100 k0 p0 p1 p2 p4 fu) q3 q5 N) 100 [some (.ref p0), some (.ref p1), some (.ref p2), some (.int q3), some (.int p4), some (.int q5)] [] N
    unfold lb_A_analyse_100
    refine im_iload 53 100 rfl rfl ?_
    refine im_bipush 54 102 rfl rfl ?_
    refine im_ic_ge 55 104 147 rfl (by decide) ?_ ?_
    · exact im_less _ (by simp [lv_le]) (hk0 q3 N)
    · refine im_aload_n 56 107 rfl rfl ?_
      refine im_iload 57 108 rfl rfl ?_
      refine im_ci (S := []) (fun _ hv => cpV (fr' := 1) (lo' := 20) (i := 58) (As := [.int q5]) (S := []) (a := p1) (c := 7) rfl lk_A_26 mw_P_hasPoint mv_P_hasPoint rfl ⟨by decide, rfl⟩ rfl rfl rfl (gd_some hv).1 (sp_P_hasPoint G hv)) (fun x10 => ?_)
      refine im_jp (fun j141 => ∀ (x11 : Int32) (M5 : mm_T), im_I mi_A_analyse 5 116 G M0 sw_v (j141 x11 M5) 141 [some (.ref p0), some (.ref p1), some (.ref p2), some (.int x11), some (.int p4), some (.int q5)] [] M5) ?_ (fun j141 hj141 => ?_)
      · intro x11 M5
        show im_I mi_A_analyse 5 116 G M0 sw_v (_) 141 [some (.ref p0), some (.ref p1), some (.ref p2), some (.int x11), some (.int p4), some (.int q5)] [] M5
        refine im_iincL 73 141 (fun x12 => [some (.ref p0), some (.ref p1), some (.ref p2), some (.int x11), some (.int p4), some (.int x12)]) rfl rfl rfl rfl (fun _ => rfl) (fun x12 => ?_)
        refine im_goto 74 144 100 rfl (by decide) ?_
        exact im_less _ (by simp [lv_le]) (ih x11 x12 M5)
      refine im_if_eq 59 113 141 rfl (by decide) ?_ ?_
      · exact im_less _ (by simp [lv_le]) (hj141 q3 N)
      · refine im_aload_n 60 116 rfl rfl ?_
        refine im_aload_n 61 117 rfl rfl ?_
        refine im_iload 62 118 rfl rfl ?_
        refine im_ci (S := [.ref p2]) (fun _ hv => cpV (fr' := 2) (lo' := 41) (i := 63) (As := [.int q5]) (S := [.ref p2]) (a := p1) (c := 7) rfl lk_A_32 mw_P_blockAt mv_P_blockAt rfl ⟨by decide, rfl⟩ rfl rfl rfl (gd_some hv).1 (sp_P_blockAt G hv)) (fun x13 => ?_)
        refine im_ci (S := []) (fun _ hv => cpV (fr' := 2) (lo' := 42) (i := 64) (As := [.int x13]) (S := []) (a := p2) (c := 2) rfl lk_A_36 mw_G_isReached mv_G_isReached rfl ⟨by decide, rfl⟩ rfl rfl rfl (gd_some hv).1 (sp_G_isReached G hv)) (fun x14 => ?_)
        refine im_if_eq 65 126 141 rfl (by decide) ?_ ?_
        · exact im_less _ (by simp [lv_le]) (hj141 q3 N)
        · refine im_aload_n 66 129 rfl rfl ?_
          refine im_aload_n 67 130 rfl rfl ?_
          refine im_iload 68 131 rfl rfl ?_
          refine im_cWi (S := []) (fun _ _ hv => cpV (fr' := 4) (lo' := 86) (i := 69) (As := [.ref p1, .int q5]) (S := []) (a := p0) (c := 0) rfl lk_A_51 mw_A_flow mv_A_flow rfl ⟨by decide, rfl⟩ rfl rfl rfl (gd_some hv).1 (sp_A_flow G hv)) (fun x15 M6 => ?_)
          refine im_if_eq 70 136 141 rfl (by decide) ?_ ?_
          · exact im_less _ (by simp [lv_le]) (hj141 q3 M6)
          · refine im_iconst 71 139 rfl rfl ?_
            refine im_istore_n 72 140 [some (.ref p0), some (.ref p1), some (.ref p2), some (.int (1 : Int32)), some (.int p4), some (.int q5)] rfl rfl rfl ?_
            exact im_less _ (by simp [lv_le]) (hj141 (1 : Int32) M6)

set_option maxRecDepth 100000 in
set_option maxHeartbeats 4000000 in
theorem li_A_analyse_84 (G : gl_T) (M0 : mm_T) (k0 : mm_T → Option (mm_T)) (p0 : Nat) (p1 : Nat) (p2 : Nat) (hk0 : ∀ (N : mm_T), im_I mi_A_analyse 5 116 G M0 sw_v (k0 N) 153 [some (.ref p0), none, none, none, none, none] [] N) : ∀ (fu : Nat) (q3 : Int32) (q4 : Int32) (N : mm_T), im_I mi_A_analyse 5 116 G M0 sw_v (lf_A_analyse_84 k0 p0 p1 p2 fu q3 q4 N) 84 [some (.ref p0), some (.ref p1), some (.ref p2), some (.int q3), some (.int q4), none] [] N := by
  intro fu
  induction fu with
  | zero => intro _ _ _; exact im_none
  | succ fu ih =>
    intro q3 q4 N
    show im_I mi_A_analyse 5 116 G M0 sw_v (lb_A_analyse_84 k0 p0 p1 p2 (lf_A_analyse_84 k0 p0 p1 p2 fu) q3 q4 N) 84 [some (.ref p0), some (.ref p1), some (.ref p2), some (.int q3), some (.int q4), none] [] N
    unfold lb_A_analyse_84
    refine im_iload_n 44 84 rfl rfl ?_
    refine im_if_eq 45 85 153 rfl (by decide) ?_ ?_
    · exact im_less _ (by simp [lv_le]) (hk0 N)
    · refine im_iload 46 88 rfl rfl ?_
      refine im_ldcI 47 90 (v := (100000 : Int32)) rfl (tb_m 883 (by decide +kernel) rfl) ?_
      refine im_ic_ge 48 92 153 rfl (by decide) ?_ ?_
      · exact im_less _ (by simp [lv_le]) (hk0 N)
      · refine im_iconst 49 95 rfl rfl ?_
        refine im_istore_n 50 96 [some (.ref p0), some (.ref p1), some (.ref p2), some (.int (0 : Int32)), some (.int q4), none] rfl rfl rfl ?_
        refine im_iconst 51 97 rfl rfl ?_
        refine im_istore 52 98 [some (.ref p0), some (.ref p1), some (.ref p2), some (.int (0 : Int32)), some (.int q4), some (.int (0 : Int32))] rfl rfl rfl ?_
        refine im_less [some (.ref p0), some (.ref p1), some (.ref p2), some (.int (0 : Int32)), some (.int q4), some (.int (0 : Int32))] (by simp [lv_le]) ?_
        refine li_A_analyse_100 G M0 _ p0 p1 p2 q4 ?_ fu_L (0 : Int32) (0 : Int32) N
        · intro x16 M7
          show im_I mi_A_analyse 5 116 G M0 sw_v (_) 147 [some (.ref p0), some (.ref p1), some (.ref p2), some (.int x16), some (.int q4), none] [] M7
          refine im_iincL 75 147 (fun x17 => [some (.ref p0), some (.ref p1), some (.ref p2), some (.int x16), some (.int x17), none]) rfl rfl rfl rfl (fun _ => rfl) (fun x17 => ?_)
          refine im_goto 76 150 84 rfl (by decide) ?_
          exact im_less _ (by simp [lv_le]) (ih x16 x17 M7)

set_option maxRecDepth 100000 in
set_option maxHeartbeats 4000000 in
theorem ip_A_analyse (G : gl_T) (t : Nat) (a1 : Nat) (a2 : Nat) (M : mm_T) : im_I mi_A_analyse 5 116 G M sw_v (ff_A_analyse t a1 a2 M) 0 [some (.ref t), some (.ref a1), some (.ref a2), none, none, none] [] M := by
  unfold ff_A_analyse
  refine im_gd (fun hg => ?_)
  refine im_aload_n 0 0 rfl rfl ?_
  refine im_aload_n 1 1 rfl rfl ?_
  refine im_cWv (S := []) (fun _ hv => cpV (fr' := 4) (lo' := 84) (i := 2) (As := [.ref a1]) (S := []) (a := t) (c := 0) rfl lk_A_22 mw_A_nameExpressions mv_A_nameExpressions rfl ⟨by decide, rfl⟩ rfl rfl rfl (gd_some hv).1 (sp_A_nameExpressions G hv)) (fun M1 => ?_)
  refine im_iconst 3 5 rfl rfl ?_
  refine im_istore_n 4 6 [some (.ref t), some (.ref a1), some (.ref a2), some (.int (0 : Int32)), none, none] rfl rfl rfl ?_
  refine im_less [some (.ref t), some (.ref a1), some (.ref a2), some (.int (0 : Int32)), none, none] (by simp [lv_le]) ?_
  refine li_A_analyse_7 G M _ t a1 a2 ?_ fu_L (0 : Int32) M1
  · intro M3
    show im_I mi_A_analyse 5 116 G M sw_v (_) 66 [some (.ref t), some (.ref a1), some (.ref a2), none, none, none] [] M3
    refine im_aload_n 33 66 rfl rfl ?_
    refine im_getR 34 67 rfl fd_A_19 (by decide +kernel) (fun x8 => ?_)
    refine im_aload_n 35 70 rfl rfl ?_
    refine im_iconst 36 71 rfl rfl ?_
    refine im_ci (S := [.ref x8]) (fun _ hv => cpV (fr' := 2) (lo' := 41) (i := 37) (As := [.int (0 : Int32)]) (S := [.ref x8]) (a := a1) (c := 7) rfl lk_A_47 mw_P_firstPoint mv_P_firstPoint rfl ⟨by decide, rfl⟩ rfl rfl rfl (gd_some hv).1 (sp_P_firstPoint G hv)) (fun x9 => ?_)
    refine im_lconst 38 75 rfl rfl ?_
    refine im_cWv (S := []) (fun _ hv => cpS (fr' := 1) (lo' := 20) (i := 39) (As := [.ref x8, .int x9, .long (0 : Int64)]) (S := []) rfl lk_A_43 mw_D_put_b mv_D_put_b rfl rfl rfl rfl (sp_D_put_b G hv)) (fun M4 => ?_)
    refine im_iconst 40 79 rfl rfl ?_
    refine im_istore_n 41 80 [some (.ref t), some (.ref a1), some (.ref a2), some (.int (1 : Int32)), none, none] rfl rfl rfl ?_
    refine im_iconst 42 81 rfl rfl ?_
    refine im_istore 43 82 [some (.ref t), some (.ref a1), some (.ref a2), some (.int (1 : Int32)), some (.int (0 : Int32)), none] rfl rfl rfl ?_
    refine im_less [some (.ref t), some (.ref a1), some (.ref a2), some (.int (1 : Int32)), some (.int (0 : Int32)), none] (by simp [lv_le]) ?_
    refine li_A_analyse_84 G M _ t a1 a2 ?_ fu_L (1 : Int32) (0 : Int32) M4
    · intro M8
      show im_I mi_A_analyse 5 116 G M sw_v (_) 153 [some (.ref t), none, none, none, none, none] [] M8
      refine im_aload_n 77 153 rfl rfl ?_
      refine im_iconst 78 154 rfl rfl ?_
      refine im_putZ 79 155 rfl fd_A_55 (Or.inl (by decide +kernel)) (by decide +kernel) (fun M9 => ?_)
      exact im_end rfl (wp_return 80 158 rfl rfl)

theorem sp_A_analyse (G : gl_T) {t : Nat} {a1 : Nat} {a2 : Nat} {M : mm_T} {y : mm_T} (h : ff_A_analyse t a1 a2 M = some y) : sp_S mi_A_analyse 5 116 G [.ref t, .ref a1, .ref a2] M (sw_v y).1 (sw_v y).2 := sp_of mo_A_analyse mw_A_analyse (Or.inl (by decide +kernel)) rfl rfl (Or.inl rfl) (ip_A_analyse G t a1 a2 M y h)

set_option maxRecDepth 100000 in
set_option maxHeartbeats 4000000 in
theorem ip_D_available (G : gl_T) (t : Nat) (M : mm_T) : im_I mi_D_available 6 141 G M sw_r (ff_D_available t M) 0 [some (.ref t)] [] M := by
  unfold ff_D_available
  refine im_gd (fun hg => ?_)
  refine im_aload_n 0 0 rfl rfl ?_
  refine im_getR 1 1 rfl fd_D_65 (by decide +kernel) (fun x1 => ?_)
  refine im_getI 2 4 rfl fd_D_476 (by decide +kernel) (fun x2 => ?_)
  refine im_jp (fun j25 => ∀  (M1 : mm_T), im_I mi_D_available 6 141 G M sw_r (j25 M1) 25 [some (.ref t)] [] M1) ?_ (fun j25 hj25 => ?_)
  · intro M1
    show im_I mi_D_available 6 141 G M sw_r (_) 25 [some (.ref t)] [] M1
    refine im_aload_n 11 25 rfl rfl ?_
    refine im_getR 12 26 rfl fd_D_65 (by decide +kernel) (fun x3 => ?_)
    exact im_end rfl (wp_areturn 13 29 rfl (Or.inl ⟨_, rfl⟩) rfl)
  refine im_if_ne 3 7 25 rfl (by decide) ?_ ?_
  · exact im_less _ (by simp [lv_le]) (hj25 M)
  · refine im_aload_n 4 10 rfl rfl ?_
    refine im_getR 5 11 rfl fd_D_65 (by decide +kernel) (fun x4 => ?_)
    refine im_aload_n 6 14 rfl rfl ?_
    refine im_getR 7 15 rfl fd_D_87 (by decide +kernel) (fun x5 => ?_)
    refine im_aload_n 8 18 rfl rfl ?_
    refine im_cWr (S := [.ref x5, .ref x4]) (fun _ _ hv => cpV (fr' := 5) (lo' := 112) (i := 9) (As := []) (S := [.ref x5, .ref x4]) (a := t) (c := 10) rfl lk_D_165 mw_D_graph mv_D_graph rfl ⟨by decide, rfl⟩ rfl rfl rfl (gd_some hv).1 (sp_D_graph G hv)) (fun x6 M2 => ?_)
    refine im_cWv (S := []) (fun _ hv => cpV (fr' := 5) (lo' := 116) (i := 10) (As := [.ref x5, .ref x6]) (S := []) (a := x4) (c := 0) rfl lk_D_483 mw_A_analyse mv_A_analyse rfl ⟨by decide, rfl⟩ rfl rfl rfl (gd_some hv).1 (sp_A_analyse G hv)) (fun M3 => ?_)
    exact im_less _ (by simp [lv_le]) (hj25 M3)

theorem sp_D_available (G : gl_T) {t : Nat} {M : mm_T} {y : Nat × mm_T} (h : ff_D_available t M = some y) : sp_S mi_D_available 6 141 G [.ref t] M (sw_r y).1 (sw_r y).2 := sp_of mo_D_available mw_D_available (Or.inl (by decide +kernel)) rfl rfl (Or.inl rfl) (ip_D_available G t M y h)

set_option maxRecDepth 100000 in
set_option maxHeartbeats 4000000 in
theorem li_A_countNames_4 (G : gl_T) (p0 : Nat) (p1 : Nat) (M : mm_T) : ∀ (fu : Nat) (q2 : Int32) (q3 : Int32), im_I mi_A_countNames 2 41 G M (sh_i M) (lf_A_countNames_4 p0 p1 M fu q2 q3) 4 [some (.ref p0), some (.ref p1), some (.int q2), some (.int q3)] [] M := by
  intro fu
  induction fu with
  | zero => intro _ _; exact im_none
  | succ fu ih =>
    intro q2 q3
    show im_I mi_A_countNames 2 41 G M (sh_i M) (lb_A_countNames_4 p0 p1 M (lf_A_countNames_4 p0 p1 M fu) q2 q3) 4 [some (.ref p0), some (.ref p1), some (.int q2), some (.int q3)] [] M
    unfold lb_A_countNames_4
    refine im_iload_n 4 4 rfl rfl ?_
    refine im_aload_n 5 5 rfl rfl ?_
    refine im_getI 6 6 rfl fd_A_63 (by decide +kernel) (fun x1 => ?_)
    refine im_ic_ge 7 9 38 rfl (by decide) ?_ ?_
    · refine im_iload_n 22 38 rfl rfl ?_
      exact im_end rfl (wp_ireturn 23 39 rfl rfl)
    · refine im_iload_n 8 12 rfl rfl ?_
      refine im_aload_n 9 13 rfl rfl ?_
      refine im_getR 10 14 rfl fd_A_9 (by decide +kernel) (fun x2 => ?_)
      refine im_iload_n 11 17 rfl rfl ?_
      refine im_ci (S := [.int q2]) (fun _ hv => cpS (fr' := 1) (lo' := 20) (i := 12) (As := [.ref x2, .int q3]) (S := [.int q2]) rfl lk_A_67 mw_D_at_a mv_D_at_a rfl rfl rfl rfl (sp_D_at_a G hv)) (fun x3 => ?_)
      refine im_iload_n 13 21 rfl rfl ?_
      refine im_jp (fun j30 => ∀ (x4 : Int32), im_I mi_A_countNames 2 41 G M (sh_i M) (j30 x4) 30 [some (.ref p0), some (.ref p1), none, some (.int q3)] [.int x4, .int q2] M) ?_ (fun j30 hj30 => ?_)
      · intro x4
        show im_I mi_A_countNames 2 41 G M (sh_i M) (_) 30 [some (.ref p0), some (.ref p1), none, some (.int q3)] [.int x4, .int q2] M
        refine im_iadd 18 30 rfl ?_
        refine im_letI (fun x5 => ?_)
        refine im_istore_n 19 31 [some (.ref p0), some (.ref p1), some (.int x5), some (.int q3)] rfl rfl rfl ?_
        refine im_iincL 20 32 (fun x6 => [some (.ref p0), some (.ref p1), some (.int x5), some (.int x6)]) rfl rfl rfl rfl (fun _ => rfl) (fun x6 => ?_)
        refine im_goto 21 35 4 rfl (by decide) ?_
        exact im_less _ (by simp [lv_le]) (ih x5 x6)
      refine im_ic_ne 14 22 29 rfl (by decide) ?_ ?_
      · refine im_iconst 17 29 rfl rfl ?_
        exact im_less _ (by simp [lv_le]) (hj30 (0 : Int32))
      · refine im_iconst 15 25 rfl rfl ?_
        refine im_goto 16 26 30 rfl (by decide) ?_
        exact im_less _ (by simp [lv_le]) (hj30 (1 : Int32))

set_option maxRecDepth 100000 in
set_option maxHeartbeats 4000000 in
theorem ip_A_countNames (G : gl_T) (t : Nat) (a1 : Nat) (M : mm_T) : im_I mi_A_countNames 2 41 G M (sh_i M) (ff_A_countNames t a1 M) 0 [some (.ref t), some (.ref a1), none, none] [] M := by
  unfold ff_A_countNames
  refine im_gd (fun hg => ?_)
  refine im_iconst 0 0 rfl rfl ?_
  refine im_istore_n 1 1 [some (.ref t), some (.ref a1), some (.int (0 : Int32)), none] rfl rfl rfl ?_
  refine im_iconst 2 2 rfl rfl ?_
  refine im_istore_n 3 3 [some (.ref t), some (.ref a1), some (.int (0 : Int32)), some (.int (0 : Int32))] rfl rfl rfl ?_
  refine im_less [some (.ref t), some (.ref a1), some (.int (0 : Int32)), some (.int (0 : Int32))] (by simp [lv_le]) ?_
  exact li_A_countNames_4 G t a1 M fu_L (0 : Int32) (0 : Int32)

theorem sp_A_countNames (G : gl_T) {t : Nat} {a1 : Nat} {M : mm_T} {y : Int32} (h : ff_A_countNames t a1 M = some y) : sp_S mi_A_countNames 2 41 G [.ref t, .ref a1] M ((sh_i M) y).1 ((sh_i M) y).2 := sp_of mo_A_countNames mw_A_countNames (Or.inl (by decide +kernel)) rfl rfl (Or.inl rfl) (ip_A_countNames G t a1 M y h)

set_option maxRecDepth 100000 in
set_option maxHeartbeats 4000000 in
theorem ip_D_expressionCount (G : gl_T) (t : Nat) (M : mm_T) : im_I mi_D_expressionCount 7 161 G M sw_i (ff_D_expressionCount t M) 0 [some (.ref t)] [] M := by
  unfold ff_D_expressionCount
  refine im_gd (fun hg => ?_)
  refine im_aload_n 0 0 rfl rfl ?_
  refine im_cWr (S := []) (fun _ _ hv => cpV (fr' := 6) (lo' := 141) (i := 1) (As := []) (S := []) (a := t) (c := 10) rfl lk_D_253 mw_D_available mv_D_available rfl ⟨by decide, rfl⟩ rfl rfl rfl (gd_some hv).1 (sp_D_available G hv)) (fun x1 M1 => ?_)
  refine im_aload_n 2 4 rfl rfl ?_
  refine im_getR 3 5 rfl fd_D_87 (by decide +kernel) (fun x2 => ?_)
  refine im_ci (S := []) (fun _ hv => cpV (fr' := 2) (lo' := 41) (i := 4) (As := [.ref x2]) (S := []) (a := x1) (c := 0) rfl lk_D_257 mw_A_countNames mv_A_countNames rfl ⟨by decide, rfl⟩ rfl rfl rfl (gd_some hv).1 (sp_A_countNames G hv)) (fun x3 => ?_)
  exact im_end rfl (wp_ireturn 5 11 rfl rfl)

theorem sp_D_expressionCount (G : gl_T) {t : Nat} {M : mm_T} {y : Int32 × mm_T} (h : ff_D_expressionCount t M = some y) : sp_S mi_D_expressionCount 7 161 G [.ref t] M (sw_i y).1 (sw_i y).2 := sp_of mo_D_expressionCount mw_D_expressionCount (Or.inl (by decide +kernel)) rfl rfl (Or.inl rfl) (ip_D_expressionCount G t M y h)

set_option maxRecDepth 100000 in
set_option maxHeartbeats 4000000 in
theorem ip_A_isRedundantAt (G : gl_T) (t : Nat) (a1 : Nat) (a2 : Int32) (M : mm_T) : im_I mi_A_isRedundantAt 3 62 G M (sh_i M) (ff_A_isRedundantAt t a1 a2 M) 0 [some (.ref t), some (.ref a1), some (.int a2)] [] M := by
  unfold ff_A_isRedundantAt
  refine im_gd (fun hg => ?_)
  refine im_aload_n 0 0 rfl rfl ?_
  refine im_iload_n 1 1 rfl rfl ?_
  refine im_ci (S := []) (fun _ hv => cpV (fr' := 2) (lo' := 41) (i := 2) (As := [.int a2]) (S := []) (a := a1) (c := 7) rfl lk_A_70 mw_P_kindAt mv_P_kindAt rfl ⟨by decide, rfl⟩ rfl rfl rfl (gd_some hv).1 (sp_P_kindAt G hv)) (fun x1 => ?_)
  refine im_iconst 3 5 rfl rfl ?_
  refine im_ic_ne 4 6 35 rfl (by decide) ?_ ?_
  · refine im_iconst 17 35 rfl rfl ?_
    exact im_end rfl (wp_zreturn 18 36 (ty := .boolean) rfl (by first | exact nz_0 | exact nz_1) rfl)
  · refine im_aload_n 5 9 rfl rfl ?_
    refine im_getR 6 10 rfl fd_A_19 (by decide +kernel) (fun x2 => ?_)
    refine im_iload_n 7 13 rfl rfl ?_
    refine im_cj (S := []) (fun _ hv => cpS (fr' := 1) (lo' := 20) (i := 8) (As := [.ref x2, .int a2]) (S := []) rfl lk_A_59 mw_D_at_b mv_D_at_b rfl rfl rfl rfl (sp_D_at_b G hv)) (fun x3 => ?_)
    refine im_aload_n 9 17 rfl rfl ?_
    refine im_getR 10 18 rfl fd_A_9 (by decide +kernel) (fun x4 => ?_)
    refine im_iload_n 11 21 rfl rfl ?_
    refine im_ci (S := [.long x3]) (fun _ hv => cpS (fr' := 1) (lo' := 20) (i := 12) (As := [.ref x4, .int a2]) (S := [.long x3]) rfl lk_A_67 mw_D_at_a mv_D_at_a rfl rfl rfl rfl (sp_D_at_a G hv)) (fun x5 => ?_)
    refine im_ci (S := []) (fun _ hv => cpS (fr' := 1) (lo' := 20) (i := 13) (As := [.long x3, .int x5]) (S := []) rfl lk_A_73 mw_D_hasBit mv_D_hasBit rfl rfl rfl rfl (sp_D_hasBit G hv)) (fun x6 => ?_)
    refine im_if_eq 14 28 35 rfl (by decide) ?_ ?_
    · refine im_iconst 17 35 rfl rfl ?_
      exact im_end rfl (wp_zreturn 18 36 (ty := .boolean) rfl (by first | exact nz_0 | exact nz_1) rfl)
    · refine im_iconst 15 31 rfl rfl ?_
      refine im_goto 16 32 36 rfl (by decide) ?_
      exact im_end rfl (wp_zreturn 18 36 (ty := .boolean) rfl (by first | exact nz_0 | exact nz_1) rfl)

theorem sp_A_isRedundantAt (G : gl_T) {t : Nat} {a1 : Nat} {a2 : Int32} {M : mm_T} {y : Int32} (h : ff_A_isRedundantAt t a1 a2 M = some y) : sp_S mi_A_isRedundantAt 3 62 G [.ref t, .ref a1, .int a2] M ((sh_i M) y).1 ((sh_i M) y).2 := sp_of mo_A_isRedundantAt mw_A_isRedundantAt (Or.inl (by decide +kernel)) rfl rfl (Or.inl rfl) (ip_A_isRedundantAt G t a1 a2 M y h)

set_option maxRecDepth 100000 in
set_option maxHeartbeats 4000000 in
theorem ip_D_isRedundant (G : gl_T) (t : Nat) (a1 : Int32) (M : mm_T) : im_I mi_D_isRedundant 7 161 G M sX_i (ff_D_isRedundant t a1 M) 0 [some (.ref t), some (.int a1)] [] M := by
  unfold ff_D_isRedundant
  refine im_gd (fun hg => ?_)
  refine im_aload_n 0 0 rfl rfl ?_
  refine im_iload_n 1 1 rfl rfl ?_
  refine im_rq (S := []) (fun hv => cpV (fr' := 6) (lo' := 90) (i := 2) (As := [.int a1]) (S := []) (a := t) (c := 10) rfl lk_D_144 mw_D_requireInstruction mv_D_requireInstruction rfl ⟨by decide, rfl⟩ rfl rfl rfl (gd_some hv).1 (sp_D_requireInstruction G hv)) (fun _ hv => xpV (fr' := 6) (lo' := 90) (i := 2) (As := [.int a1]) (S := []) (a := t) (c := 10) rfl lm_D_144 mw_D_requireInstruction mv_D_requireInstruction rfl ⟨by decide, rfl⟩ rfl rfl rfl (gd_some hv).1 (sp_D_requireInstruction G hv) (tw_out rfl)) (fun _ => rfl) ?_
  refine im_aload_n 3 5 rfl rfl ?_
  refine im_cWr (S := []) (fun _ _ hv => cpV (fr' := 6) (lo' := 141) (i := 4) (As := []) (S := []) (a := t) (c := 10) rfl lk_D_253 mw_D_available mv_D_available rfl ⟨by decide, rfl⟩ rfl rfl rfl (gd_some hv).1 (sp_D_available G hv)) (fun x1 M1 => ?_)
  refine im_aload_n 5 9 rfl rfl ?_
  refine im_getR 6 10 rfl fd_D_87 (by decide +kernel) (fun x2 => ?_)
  refine im_iload_n 7 13 rfl rfl ?_
  refine im_ci (S := []) (fun _ hv => cpV (fr' := 3) (lo' := 62) (i := 8) (As := [.ref x2, .int a1]) (S := []) (a := x1) (c := 0) rfl lk_D_260 mw_A_isRedundantAt mv_A_isRedundantAt rfl ⟨by decide, rfl⟩ rfl rfl rfl (gd_some hv).1 (sp_A_isRedundantAt G hv)) (fun x3 => ?_)
  exact im_endZ (fun _ => rfl) (fun hn => wp_zreturn 9 17 (ty := .boolean) rfl hn rfl)

theorem sp_D_isRedundant (G : gl_T) {t : Nat} {a1 : Int32} {M : mm_T} {y : (Int32 ⊕ String) × mm_T} (h : ff_D_isRedundant t a1 M = some y) : sp_S mi_D_isRedundant 7 161 G [.ref t, .int a1] M (sX_i y).1 (sX_i y).2 := sp_of mo_D_isRedundant mw_D_isRedundant (Or.inl (by decide +kernel)) rfl rfl (Or.inl rfl) (ip_D_isRedundant G t a1 M y h)

set_option maxRecDepth 100000 in
set_option maxHeartbeats 4000000 in
theorem li_A_countRedundant_4 (G : gl_T) (p0 : Nat) (p1 : Nat) (M : mm_T) : ∀ (fu : Nat) (q2 : Int32) (q3 : Int32), im_I mi_A_countRedundant 4 84 G M (sh_i M) (lf_A_countRedundant_4 p0 p1 M fu q2 q3) 4 [some (.ref p0), some (.ref p1), some (.int q2), some (.int q3)] [] M := by
  intro fu
  induction fu with
  | zero => intro _ _; exact im_none
  | succ fu ih =>
    intro q2 q3
    show im_I mi_A_countRedundant 4 84 G M (sh_i M) (lb_A_countRedundant_4 p0 p1 M (lf_A_countRedundant_4 p0 p1 M fu) q2 q3) 4 [some (.ref p0), some (.ref p1), some (.int q2), some (.int q3)] [] M
    unfold lb_A_countRedundant_4
    refine im_iload_n 4 4 rfl rfl ?_
    refine im_aload_n 5 5 rfl rfl ?_
    refine im_getI 6 6 rfl fd_A_63 (by decide +kernel) (fun x1 => ?_)
    refine im_ic_ge 7 9 35 rfl (by decide) ?_ ?_
    · refine im_iload_n 21 35 rfl rfl ?_
      exact im_end rfl (wp_ireturn 22 36 rfl rfl)
    · refine im_iload_n 8 12 rfl rfl ?_
      refine im_aload_n 9 13 rfl rfl ?_
      refine im_aload_n 10 14 rfl rfl ?_
      refine im_iload_n 11 15 rfl rfl ?_
      refine im_ci (S := [.int q2]) (fun _ hv => cpV (fr' := 3) (lo' := 62) (i := 12) (As := [.ref p1, .int q3]) (S := [.int q2]) (a := p0) (c := 0) rfl lk_A_77 mw_A_isRedundantAt mv_A_isRedundantAt rfl ⟨by decide, rfl⟩ rfl rfl rfl (gd_some hv).1 (sp_A_isRedundantAt G hv)) (fun x2 => ?_)
      refine im_jp (fun j27 => ∀ (x3 : Int32), im_I mi_A_countRedundant 4 84 G M (sh_i M) (j27 x3) 27 [some (.ref p0), some (.ref p1), none, some (.int q3)] [.int x3, .int q2] M) ?_ (fun j27 hj27 => ?_)
      · intro x3
        show im_I mi_A_countRedundant 4 84 G M (sh_i M) (_) 27 [some (.ref p0), some (.ref p1), none, some (.int q3)] [.int x3, .int q2] M
        refine im_iadd 17 27 rfl ?_
        refine im_letI (fun x4 => ?_)
        refine im_istore_n 18 28 [some (.ref p0), some (.ref p1), some (.int x4), some (.int q3)] rfl rfl rfl ?_
        refine im_iincL 19 29 (fun x5 => [some (.ref p0), some (.ref p1), some (.int x4), some (.int x5)]) rfl rfl rfl rfl (fun _ => rfl) (fun x5 => ?_)
        refine im_goto 20 32 4 rfl (by decide) ?_
        exact im_less _ (by simp [lv_le]) (ih x4 x5)
      refine im_if_eq 13 19 26 rfl (by decide) ?_ ?_
      · refine im_iconst 16 26 rfl rfl ?_
        exact im_less _ (by simp [lv_le]) (hj27 (0 : Int32))
      · refine im_iconst 14 22 rfl rfl ?_
        refine im_goto 15 23 27 rfl (by decide) ?_
        exact im_less _ (by simp [lv_le]) (hj27 (1 : Int32))

set_option maxRecDepth 100000 in
set_option maxHeartbeats 4000000 in
theorem ip_A_countRedundant (G : gl_T) (t : Nat) (a1 : Nat) (M : mm_T) : im_I mi_A_countRedundant 4 84 G M (sh_i M) (ff_A_countRedundant t a1 M) 0 [some (.ref t), some (.ref a1), none, none] [] M := by
  unfold ff_A_countRedundant
  refine im_gd (fun hg => ?_)
  refine im_iconst 0 0 rfl rfl ?_
  refine im_istore_n 1 1 [some (.ref t), some (.ref a1), some (.int (0 : Int32)), none] rfl rfl rfl ?_
  refine im_iconst 2 2 rfl rfl ?_
  refine im_istore_n 3 3 [some (.ref t), some (.ref a1), some (.int (0 : Int32)), some (.int (0 : Int32))] rfl rfl rfl ?_
  refine im_less [some (.ref t), some (.ref a1), some (.int (0 : Int32)), some (.int (0 : Int32))] (by simp [lv_le]) ?_
  exact li_A_countRedundant_4 G t a1 M fu_L (0 : Int32) (0 : Int32)

theorem sp_A_countRedundant (G : gl_T) {t : Nat} {a1 : Nat} {M : mm_T} {y : Int32} (h : ff_A_countRedundant t a1 M = some y) : sp_S mi_A_countRedundant 4 84 G [.ref t, .ref a1] M ((sh_i M) y).1 ((sh_i M) y).2 := sp_of mo_A_countRedundant mw_A_countRedundant (Or.inl (by decide +kernel)) rfl rfl (Or.inl rfl) (ip_A_countRedundant G t a1 M y h)

set_option maxRecDepth 100000 in
set_option maxHeartbeats 4000000 in
theorem ip_D_redundantCount (G : gl_T) (t : Nat) (M : mm_T) : im_I mi_D_redundantCount 7 161 G M sw_i (ff_D_redundantCount t M) 0 [some (.ref t)] [] M := by
  unfold ff_D_redundantCount
  refine im_gd (fun hg => ?_)
  refine im_aload_n 0 0 rfl rfl ?_
  refine im_cWr (S := []) (fun _ _ hv => cpV (fr' := 6) (lo' := 141) (i := 1) (As := []) (S := []) (a := t) (c := 10) rfl lk_D_253 mw_D_available mv_D_available rfl ⟨by decide, rfl⟩ rfl rfl rfl (gd_some hv).1 (sp_D_available G hv)) (fun x1 M1 => ?_)
  refine im_aload_n 2 4 rfl rfl ?_
  refine im_getR 3 5 rfl fd_D_87 (by decide +kernel) (fun x2 => ?_)
  refine im_ci (S := []) (fun _ hv => cpV (fr' := 4) (lo' := 84) (i := 4) (As := [.ref x2]) (S := []) (a := x1) (c := 0) rfl lk_D_263 mw_A_countRedundant mv_A_countRedundant rfl ⟨by decide, rfl⟩ rfl rfl rfl (gd_some hv).1 (sp_A_countRedundant G hv)) (fun x3 => ?_)
  exact im_end rfl (wp_ireturn 5 11 rfl rfl)

theorem sp_D_redundantCount (G : gl_T) {t : Nat} {M : mm_T} {y : Int32 × mm_T} (h : ff_D_redundantCount t M = some y) : sp_S mi_D_redundantCount 7 161 G [.ref t] M (sw_i y).1 (sw_i y).2 := sp_of mo_D_redundantCount mw_D_redundantCount (Or.inl (by decide +kernel)) rfl rfl (Or.inl rfl) (ip_D_redundantCount G t M y h)

set_option maxRecDepth 100000 in
set_option maxHeartbeats 4000000 in
theorem ip_A_expressionsAt (G : gl_T) (t : Nat) (a1 : Int32) (M : mm_T) : im_I mi_A_expressionsAt 2 41 G M (sh_j M) (ff_A_expressionsAt t a1 M) 0 [some (.ref t), some (.int a1)] [] M := by
  unfold ff_A_expressionsAt
  refine im_gd (fun hg => ?_)
  refine im_aload_n 0 0 rfl rfl ?_
  refine im_getR 1 1 rfl fd_A_19 (by decide +kernel) (fun x1 => ?_)
  refine im_iload_n 2 4 rfl rfl ?_
  refine im_cj (S := []) (fun _ hv => cpS (fr' := 1) (lo' := 20) (i := 3) (As := [.ref x1, .int a1]) (S := []) rfl lk_A_59 mw_D_at_b mv_D_at_b rfl rfl rfl rfl (sp_D_at_b G hv)) (fun x2 => ?_)
  exact im_end rfl (wp_lreturn 4 8 rfl rfl)

theorem sp_A_expressionsAt (G : gl_T) {t : Nat} {a1 : Int32} {M : mm_T} {y : Int64} (h : ff_A_expressionsAt t a1 M = some y) : sp_S mi_A_expressionsAt 2 41 G [.ref t, .int a1] M ((sh_j M) y).1 ((sh_j M) y).2 := sp_of mo_A_expressionsAt mw_A_expressionsAt (Or.inl (by decide +kernel)) rfl rfl (Or.inl rfl) (ip_A_expressionsAt G t a1 M y h)

set_option maxRecDepth 100000 in
set_option maxHeartbeats 4000000 in
theorem ip_D_availableAt (G : gl_T) (t : Nat) (a1 : Int32) (M : mm_T) : im_I mi_D_availableAt 7 161 G M sX_i (ff_D_availableAt t a1 M) 0 [some (.ref t), some (.int a1)] [] M := by
  unfold ff_D_availableAt
  refine im_gd (fun hg => ?_)
  refine im_aload_n 0 0 rfl rfl ?_
  refine im_iload_n 1 1 rfl rfl ?_
  refine im_rq (S := []) (fun hv => cpV (fr' := 6) (lo' := 90) (i := 2) (As := [.int a1]) (S := []) (a := t) (c := 10) rfl lk_D_137 mw_D_requireBlock mv_D_requireBlock rfl ⟨by decide, rfl⟩ rfl rfl rfl (gd_some hv).1 (sp_D_requireBlock G hv)) (fun _ hv => xpV (fr' := 6) (lo' := 90) (i := 2) (As := [.int a1]) (S := []) (a := t) (c := 10) rfl lm_D_137 mw_D_requireBlock mv_D_requireBlock rfl ⟨by decide, rfl⟩ rfl rfl rfl (gd_some hv).1 (sp_D_requireBlock G hv) (tw_out rfl)) (fun _ => rfl) ?_
  refine im_aload_n 3 5 rfl rfl ?_
  refine im_cWr (S := []) (fun _ _ hv => cpV (fr' := 6) (lo' := 141) (i := 4) (As := []) (S := []) (a := t) (c := 10) rfl lk_D_253 mw_D_available mv_D_available rfl ⟨by decide, rfl⟩ rfl rfl rfl (gd_some hv).1 (sp_D_available G hv)) (fun x1 M1 => ?_)
  refine im_aload_n 5 9 rfl rfl ?_
  refine im_getR 6 10 rfl fd_D_87 (by decide +kernel) (fun x2 => ?_)
  refine im_iload_n 7 13 rfl rfl ?_
  refine im_ci (S := [.ref x1]) (fun _ hv => cpV (fr' := 2) (lo' := 41) (i := 8) (As := [.int a1]) (S := [.ref x1]) (a := x2) (c := 7) rfl lk_D_188 mw_P_firstPoint mv_P_firstPoint rfl ⟨by decide, rfl⟩ rfl rfl rfl (gd_some hv).1 (sp_P_firstPoint G hv)) (fun x3 => ?_)
  refine im_cj (S := []) (fun _ hv => cpV (fr' := 2) (lo' := 41) (i := 9) (As := [.int x3]) (S := []) (a := x1) (c := 0) rfl lk_D_266 mw_A_expressionsAt mv_A_expressionsAt rfl ⟨by decide, rfl⟩ rfl rfl rfl (gd_some hv).1 (sp_A_expressionsAt G hv)) (fun x4 => ?_)
  refine im_ci (S := []) (fun _ hv => cpS (fr' := 1) (lo' := 20) (i := 10) (As := [.long x4]) (S := []) rfl lk_D_205 mw_JL_bitCount mv_JL_bitCount rfl rfl rfl rfl (sp_JL_bitCount G hv)) (fun x5 => ?_)
  exact im_end rfl (wp_ireturn 11 23 rfl rfl)

theorem sp_D_availableAt (G : gl_T) {t : Nat} {a1 : Int32} {M : mm_T} {y : (Int32 ⊕ String) × mm_T} (h : ff_D_availableAt t a1 M = some y) : sp_S mi_D_availableAt 7 161 G [.ref t, .int a1] M (sX_i y).1 (sX_i y).2 := sp_of mo_D_availableAt mw_D_availableAt (Or.inl (by decide +kernel)) rfl rfl (Or.inl rfl) (ip_D_availableAt G t a1 M y h)

set_option maxRecDepth 100000 in
set_option maxHeartbeats 4000000 in
theorem ip_G_dominatorSet (G : gl_T) (t : Nat) (a1 : Int32) (M : mm_T) : im_I mi_G_dominatorSet 2 41 G M (sh_i M) (ff_G_dominatorSet t a1 M) 0 [some (.ref t), some (.int a1)] [] M := by
  unfold ff_G_dominatorSet
  refine im_gd (fun hg => ?_)
  refine im_aload_n 0 0 rfl rfl ?_
  refine im_getR 1 1 rfl fd_G_21 (by decide +kernel) (fun x1 => ?_)
  refine im_iload_n 2 4 rfl rfl ?_
  refine im_ci (S := []) (fun _ hv => cpS (fr' := 1) (lo' := 20) (i := 3) (As := [.ref x1, .int a1]) (S := []) rfl lk_G_62 mw_D_at_a mv_D_at_a rfl rfl rfl rfl (sp_D_at_a G hv)) (fun x2 => ?_)
  exact im_end rfl (wp_ireturn 4 8 rfl rfl)

theorem sp_G_dominatorSet (G : gl_T) {t : Nat} {a1 : Int32} {M : mm_T} {y : Int32} (h : ff_G_dominatorSet t a1 M = some y) : sp_S mi_G_dominatorSet 2 41 G [.ref t, .int a1] M ((sh_i M) y).1 ((sh_i M) y).2 := sp_of mo_G_dominatorSet mw_G_dominatorSet (Or.inl (by decide +kernel)) rfl rfl (Or.inl rfl) (ip_G_dominatorSet G t a1 M y h)

set_option maxRecDepth 100000 in
set_option maxHeartbeats 4000000 in
theorem ip_D_dominates (G : gl_T) (t : Nat) (a1 : Int32) (a2 : Int32) (M : mm_T) : im_I mi_D_dominates 7 132 G M sX_i (ff_D_dominates t a1 a2 M) 0 [some (.ref t), some (.int a1), some (.int a2)] [] M := by
  unfold ff_D_dominates
  refine im_gd (fun hg => ?_)
  refine im_aload_n 0 0 rfl rfl ?_
  refine im_iload_n 1 1 rfl rfl ?_
  refine im_rq (S := []) (fun hv => cpV (fr' := 6) (lo' := 90) (i := 2) (As := [.int a1]) (S := []) (a := t) (c := 10) rfl lk_D_137 mw_D_requireBlock mv_D_requireBlock rfl ⟨by decide, rfl⟩ rfl rfl rfl (gd_some hv).1 (sp_D_requireBlock G hv)) (fun _ hv => xpV (fr' := 6) (lo' := 90) (i := 2) (As := [.int a1]) (S := []) (a := t) (c := 10) rfl lm_D_137 mw_D_requireBlock mv_D_requireBlock rfl ⟨by decide, rfl⟩ rfl rfl rfl (gd_some hv).1 (sp_D_requireBlock G hv) (tw_out rfl)) (fun _ => rfl) ?_
  refine im_aload_n 3 5 rfl rfl ?_
  refine im_iload_n 4 6 rfl rfl ?_
  refine im_rq (S := []) (fun hv => cpV (fr' := 6) (lo' := 90) (i := 5) (As := [.int a2]) (S := []) (a := t) (c := 10) rfl lk_D_137 mw_D_requireBlock mv_D_requireBlock rfl ⟨by decide, rfl⟩ rfl rfl rfl (gd_some hv).1 (sp_D_requireBlock G hv)) (fun _ hv => xpV (fr' := 6) (lo' := 90) (i := 5) (As := [.int a2]) (S := []) (a := t) (c := 10) rfl lm_D_137 mw_D_requireBlock mv_D_requireBlock rfl ⟨by decide, rfl⟩ rfl rfl rfl (gd_some hv).1 (sp_D_requireBlock G hv) (tw_out rfl)) (fun _ => rfl) ?_
  refine im_aload_n 6 10 rfl rfl ?_
  refine im_cWr (S := []) (fun _ _ hv => cpV (fr' := 5) (lo' := 112) (i := 7) (As := []) (S := []) (a := t) (c := 10) rfl lk_D_165 mw_D_graph mv_D_graph rfl ⟨by decide, rfl⟩ rfl rfl rfl (gd_some hv).1 (sp_D_graph G hv)) (fun x1 M1 => ?_)
  refine im_iload_n 8 14 rfl rfl ?_
  refine im_ci (S := []) (fun _ hv => cpV (fr' := 2) (lo' := 41) (i := 9) (As := [.int a2]) (S := []) (a := x1) (c := 2) rfl lk_D_269 mw_G_dominatorSet mv_G_dominatorSet rfl ⟨by decide, rfl⟩ rfl rfl rfl (gd_some hv).1 (sp_G_dominatorSet G hv)) (fun x2 => ?_)
  refine im_i2l 10 18 rfl ?_
  refine im_iload_n 11 19 rfl rfl ?_
  refine im_ci (S := []) (fun _ hv => cpS (fr' := 1) (lo' := 20) (i := 12) (As := [.long ((x2).toInt64), .int a1]) (S := []) rfl lk_D_195 mw_D_hasBit mv_D_hasBit rfl rfl rfl rfl (sp_D_hasBit G hv)) (fun x3 => ?_)
  exact im_endZ (fun _ => rfl) (fun hn => wp_zreturn 13 23 (ty := .boolean) rfl hn rfl)

theorem sp_D_dominates (G : gl_T) {t : Nat} {a1 : Int32} {a2 : Int32} {M : mm_T} {y : (Int32 ⊕ String) × mm_T} (h : ff_D_dominates t a1 a2 M = some y) : sp_S mi_D_dominates 7 132 G [.ref t, .int a1, .int a2] M (sX_i y).1 (sX_i y).2 := sp_of mo_D_dominates mw_D_dominates (Or.inl (by decide +kernel)) rfl rfl (Or.inl rfl) (ip_D_dominates G t a1 a2 M y h)

set_option maxRecDepth 100000 in
set_option maxHeartbeats 4000000 in
theorem li_G_closestOf_2 (G : gl_T) (p0 : Nat) (p1 : Int32) (M : mm_T) : ∀ (fu : Nat) (q2 : Int32), im_I mi_G_closestOf 2 42 G M (sh_i M) (lf_G_closestOf_2 p0 p1 M fu q2) 2 [some (.ref p0), some (.int p1), some (.int q2)] [] M := by
  intro fu
  induction fu with
  | zero => intro _; exact im_none
  | succ fu ih =>
    intro q2
    show im_I mi_G_closestOf 2 42 G M (sh_i M) (lb_G_closestOf_2 p0 p1 M (lf_G_closestOf_2 p0 p1 M fu) q2) 2 [some (.ref p0), some (.int p1), some (.int q2)] [] M
    unfold lb_G_closestOf_2
    refine im_iload_n 2 2 rfl rfl ?_
    refine im_bipush 3 3 rfl rfl ?_
    refine im_ic_ge 4 5 37 rfl (by decide) ?_ ?_
    · refine im_iconst 20 37 rfl rfl ?_
      exact im_end rfl (wp_ireturn 21 38 rfl rfl)
    · refine im_iload_n 5 8 rfl rfl ?_
      refine im_i2l 6 9 rfl ?_
      refine im_iload_n 7 10 rfl rfl ?_
      refine im_ci (S := []) (fun _ hv => cpS (fr' := 1) (lo' := 20) (i := 8) (As := [.long ((p1).toInt64), .int q2]) (S := []) rfl lk_G_53 mw_D_hasBit mv_D_hasBit rfl rfl rfl rfl (sp_D_hasBit G hv)) (fun x1 => ?_)
      refine im_jp (fun j31 => im_I mi_G_closestOf 2 42 G M (sh_i M) (j31) 31 [some (.ref p0), some (.int p1), some (.int q2)] [] M) ?_ (fun j31 hj31 => ?_)
      · show im_I mi_G_closestOf 2 42 G M (sh_i M) (_) 31 [some (.ref p0), some (.int p1), some (.int q2)] [] M
        refine im_iincL 18 31 (fun x2 => [some (.ref p0), some (.int p1), some (.int x2)]) rfl rfl rfl rfl (fun _ => rfl) (fun x2 => ?_)
        refine im_goto 19 34 2 rfl (by decide) ?_
        exact im_less _ (by simp [lv_le]) (ih x2)
      refine im_if_eq 9 14 31 rfl (by decide) ?_ ?_
      · exact im_less _ (by simp [lv_le]) (hj31)
      · refine im_aload_n 10 17 rfl rfl ?_
        refine im_getR 11 18 rfl fd_G_21 (by decide +kernel) (fun x3 => ?_)
        refine im_iload_n 12 21 rfl rfl ?_
        refine im_ci (S := []) (fun _ hv => cpS (fr' := 1) (lo' := 20) (i := 13) (As := [.ref x3, .int q2]) (S := []) rfl lk_G_62 mw_D_at_a mv_D_at_a rfl rfl rfl rfl (sp_D_at_a G hv)) (fun x4 => ?_)
        refine im_iload_n 14 25 rfl rfl ?_
        refine im_ic_ne 15 26 31 rfl (by decide) ?_ ?_
        · exact im_less _ (by simp [lv_le]) (hj31)
        · refine im_iload_n 16 29 rfl rfl ?_
          exact im_end rfl (wp_ireturn 17 30 rfl rfl)

set_option maxRecDepth 100000 in
set_option maxHeartbeats 4000000 in
theorem ip_G_closestOf (G : gl_T) (t : Nat) (a1 : Int32) (M : mm_T) : im_I mi_G_closestOf 2 42 G M (sh_i M) (ff_G_closestOf t a1 M) 0 [some (.ref t), some (.int a1), none] [] M := by
  unfold ff_G_closestOf
  refine im_gd (fun hg => ?_)
  refine im_iconst 0 0 rfl rfl ?_
  refine im_istore_n 1 1 [some (.ref t), some (.int a1), some (.int (0 : Int32))] rfl rfl rfl ?_
  refine im_less [some (.ref t), some (.int a1), some (.int (0 : Int32))] (by simp [lv_le]) ?_
  exact li_G_closestOf_2 G t a1 M fu_L (0 : Int32)

theorem sp_G_closestOf (G : gl_T) {t : Nat} {a1 : Int32} {M : mm_T} {y : Int32} (h : ff_G_closestOf t a1 M = some y) : sp_S mi_G_closestOf 2 42 G [.ref t, .int a1] M ((sh_i M) y).1 ((sh_i M) y).2 := sp_of mo_G_closestOf mw_G_closestOf (Or.inl (by decide +kernel)) rfl rfl (Or.inl rfl) (ip_G_closestOf G t a1 M y h)

set_option maxRecDepth 100000 in
set_option maxHeartbeats 4000000 in
theorem ip_D_immediateDominator (G : gl_T) (t : Nat) (a1 : Int32) (M : mm_T) : im_I mi_D_immediateDominator 7 132 G M sX_i (ff_D_immediateDominator t a1 M) 0 [some (.ref t), some (.int a1)] [] M := by
  unfold ff_D_immediateDominator
  refine im_gd (fun hg => ?_)
  refine im_aload_n 0 0 rfl rfl ?_
  refine im_iload_n 1 1 rfl rfl ?_
  refine im_rq (S := []) (fun hv => cpV (fr' := 6) (lo' := 90) (i := 2) (As := [.int a1]) (S := []) (a := t) (c := 10) rfl lk_D_137 mw_D_requireBlock mv_D_requireBlock rfl ⟨by decide, rfl⟩ rfl rfl rfl (gd_some hv).1 (sp_D_requireBlock G hv)) (fun _ hv => xpV (fr' := 6) (lo' := 90) (i := 2) (As := [.int a1]) (S := []) (a := t) (c := 10) rfl lm_D_137 mw_D_requireBlock mv_D_requireBlock rfl ⟨by decide, rfl⟩ rfl rfl rfl (gd_some hv).1 (sp_D_requireBlock G hv) (tw_out rfl)) (fun _ => rfl) ?_
  refine im_aload_n 3 5 rfl rfl ?_
  refine im_cWr (S := []) (fun _ _ hv => cpV (fr' := 5) (lo' := 112) (i := 4) (As := []) (S := []) (a := t) (c := 10) rfl lk_D_165 mw_D_graph mv_D_graph rfl ⟨by decide, rfl⟩ rfl rfl rfl (gd_some hv).1 (sp_D_graph G hv)) (fun x1 M1 => ?_)
  refine im_aload_n 5 9 rfl rfl ?_
  refine im_cWr (S := [.ref x1]) (fun _ _ hv => cpV (fr' := 5) (lo' := 112) (i := 6) (As := []) (S := [.ref x1]) (a := t) (c := 10) rfl lk_D_165 mw_D_graph mv_D_graph rfl ⟨by decide, rfl⟩ rfl rfl rfl (gd_some hv).1 (sp_D_graph G hv)) (fun x2 M2 => ?_)
  refine im_iload_n 7 13 rfl rfl ?_
  refine im_ci (S := [.ref x1]) (fun _ hv => cpV (fr' := 2) (lo' := 41) (i := 8) (As := [.int a1]) (S := [.ref x1]) (a := x2) (c := 2) rfl lk_D_269 mw_G_dominatorSet mv_G_dominatorSet rfl ⟨by decide, rfl⟩ rfl rfl rfl (gd_some hv).1 (sp_G_dominatorSet G hv)) (fun x3 => ?_)
  refine im_iconst 9 17 rfl rfl ?_
  refine im_iload_n 10 18 rfl rfl ?_
  refine im_ishl 11 19 rfl ?_
  refine im_iconst 12 20 rfl rfl ?_
  refine im_ixor 13 21 rfl ?_
  refine im_iand 14 22 rfl ?_
  refine im_ci (S := []) (fun _ hv => cpV (fr' := 2) (lo' := 42) (i := 15) (As := [.int (x3 &&& ((io_shl (1 : Int32) a1) ^^^ (-1 : Int32)))]) (S := []) (a := x1) (c := 2) rfl lk_D_272 mw_G_closestOf mv_G_closestOf rfl ⟨by decide, rfl⟩ rfl rfl rfl (gd_some hv).1 (sp_G_closestOf G hv)) (fun x4 => ?_)
  exact im_end rfl (wp_ireturn 16 26 rfl rfl)

theorem sp_D_immediateDominator (G : gl_T) {t : Nat} {a1 : Int32} {M : mm_T} {y : (Int32 ⊕ String) × mm_T} (h : ff_D_immediateDominator t a1 M = some y) : sp_S mi_D_immediateDominator 7 132 G [.ref t, .int a1] M (sX_i y).1 (sX_i y).2 := sp_of mo_D_immediateDominator mw_D_immediateDominator (Or.inl (by decide +kernel)) rfl rfl (Or.inl rfl) (ip_D_immediateDominator G t a1 M y h)

set_option maxRecDepth 100000 in
set_option maxHeartbeats 4000000 in
theorem ip_D_commonDominator (G : gl_T) (t : Nat) (a1 : Int32) (a2 : Int32) (M : mm_T) : im_I mi_D_commonDominator 7 132 G M sX_i (ff_D_commonDominator t a1 a2 M) 0 [some (.ref t), some (.int a1), some (.int a2)] [] M := by
  unfold ff_D_commonDominator
  refine im_gd (fun hg => ?_)
  refine im_aload_n 0 0 rfl rfl ?_
  refine im_iload_n 1 1 rfl rfl ?_
  refine im_rq (S := []) (fun hv => cpV (fr' := 6) (lo' := 90) (i := 2) (As := [.int a1]) (S := []) (a := t) (c := 10) rfl lk_D_137 mw_D_requireBlock mv_D_requireBlock rfl ⟨by decide, rfl⟩ rfl rfl rfl (gd_some hv).1 (sp_D_requireBlock G hv)) (fun _ hv => xpV (fr' := 6) (lo' := 90) (i := 2) (As := [.int a1]) (S := []) (a := t) (c := 10) rfl lm_D_137 mw_D_requireBlock mv_D_requireBlock rfl ⟨by decide, rfl⟩ rfl rfl rfl (gd_some hv).1 (sp_D_requireBlock G hv) (tw_out rfl)) (fun _ => rfl) ?_
  refine im_aload_n 3 5 rfl rfl ?_
  refine im_iload_n 4 6 rfl rfl ?_
  refine im_rq (S := []) (fun hv => cpV (fr' := 6) (lo' := 90) (i := 5) (As := [.int a2]) (S := []) (a := t) (c := 10) rfl lk_D_137 mw_D_requireBlock mv_D_requireBlock rfl ⟨by decide, rfl⟩ rfl rfl rfl (gd_some hv).1 (sp_D_requireBlock G hv)) (fun _ hv => xpV (fr' := 6) (lo' := 90) (i := 5) (As := [.int a2]) (S := []) (a := t) (c := 10) rfl lm_D_137 mw_D_requireBlock mv_D_requireBlock rfl ⟨by decide, rfl⟩ rfl rfl rfl (gd_some hv).1 (sp_D_requireBlock G hv) (tw_out rfl)) (fun _ => rfl) ?_
  refine im_aload_n 6 10 rfl rfl ?_
  refine im_cWr (S := []) (fun _ _ hv => cpV (fr' := 5) (lo' := 112) (i := 7) (As := []) (S := []) (a := t) (c := 10) rfl lk_D_165 mw_D_graph mv_D_graph rfl ⟨by decide, rfl⟩ rfl rfl rfl (gd_some hv).1 (sp_D_graph G hv)) (fun x1 M1 => ?_)
  refine im_aload_n 8 14 rfl rfl ?_
  refine im_cWr (S := [.ref x1]) (fun _ _ hv => cpV (fr' := 5) (lo' := 112) (i := 9) (As := []) (S := [.ref x1]) (a := t) (c := 10) rfl lk_D_165 mw_D_graph mv_D_graph rfl ⟨by decide, rfl⟩ rfl rfl rfl (gd_some hv).1 (sp_D_graph G hv)) (fun x2 M2 => ?_)
  refine im_iload_n 10 18 rfl rfl ?_
  refine im_ci (S := [.ref x1]) (fun _ hv => cpV (fr' := 2) (lo' := 41) (i := 11) (As := [.int a1]) (S := [.ref x1]) (a := x2) (c := 2) rfl lk_D_269 mw_G_dominatorSet mv_G_dominatorSet rfl ⟨by decide, rfl⟩ rfl rfl rfl (gd_some hv).1 (sp_G_dominatorSet G hv)) (fun x3 => ?_)
  refine im_aload_n 12 22 rfl rfl ?_
  refine im_cWr (S := [.int x3, .ref x1]) (fun _ _ hv => cpV (fr' := 5) (lo' := 112) (i := 13) (As := []) (S := [.int x3, .ref x1]) (a := t) (c := 10) rfl lk_D_165 mw_D_graph mv_D_graph rfl ⟨by decide, rfl⟩ rfl rfl rfl (gd_some hv).1 (sp_D_graph G hv)) (fun x4 M3 => ?_)
  refine im_iload_n 14 26 rfl rfl ?_
  refine im_ci (S := [.int x3, .ref x1]) (fun _ hv => cpV (fr' := 2) (lo' := 41) (i := 15) (As := [.int a2]) (S := [.int x3, .ref x1]) (a := x4) (c := 2) rfl lk_D_269 mw_G_dominatorSet mv_G_dominatorSet rfl ⟨by decide, rfl⟩ rfl rfl rfl (gd_some hv).1 (sp_G_dominatorSet G hv)) (fun x5 => ?_)
  refine im_iand 16 30 rfl ?_
  refine im_ci (S := []) (fun _ hv => cpV (fr' := 2) (lo' := 42) (i := 17) (As := [.int (x3 &&& x5)]) (S := []) (a := x1) (c := 2) rfl lk_D_272 mw_G_closestOf mv_G_closestOf rfl ⟨by decide, rfl⟩ rfl rfl rfl (gd_some hv).1 (sp_G_closestOf G hv)) (fun x6 => ?_)
  exact im_end rfl (wp_ireturn 18 34 rfl rfl)

theorem sp_D_commonDominator (G : gl_T) {t : Nat} {a1 : Int32} {a2 : Int32} {M : mm_T} {y : (Int32 ⊕ String) × mm_T} (h : ff_D_commonDominator t a1 a2 M = some y) : sp_S mi_D_commonDominator 7 132 G [.ref t, .int a1, .int a2] M (sX_i y).1 (sX_i y).2 := sp_of mo_D_commonDominator mw_D_commonDominator (Or.inl (by decide +kernel)) rfl rfl (Or.inl rfl) (ip_D_commonDominator G t a1 a2 M y h)

set_option maxRecDepth 100000 in
set_option maxHeartbeats 4000000 in
theorem li_G_countBackEdges_4 (G : gl_T) (p0 : Nat) (M : mm_T) : ∀ (fu : Nat) (q1 : Int32) (q2 : Int32), im_I mi_G_countBackEdges 3 65 G M (sh_i M) (lf_G_countBackEdges_4 p0 M fu q1 q2) 4 [some (.ref p0), some (.int q1), some (.int q2)] [] M := by
  intro fu
  induction fu with
  | zero => intro _ _; exact im_none
  | succ fu ih =>
    intro q1 q2
    show im_I mi_G_countBackEdges 3 65 G M (sh_i M) (lb_G_countBackEdges_4 p0 M (lf_G_countBackEdges_4 p0 M fu) q1 q2) 4 [some (.ref p0), some (.int q1), some (.int q2)] [] M
    unfold lb_G_countBackEdges_4
    refine im_iload_n 4 4 rfl rfl ?_
    refine im_bipush 5 5 rfl rfl ?_
    refine im_ic_ge 6 7 27 rfl (by decide) ?_ ?_
    · refine im_iload_n 16 27 rfl rfl ?_
      exact im_end rfl (wp_ireturn 17 28 rfl rfl)
    · refine im_iload_n 7 10 rfl rfl ?_
      refine im_aload_n 8 11 rfl rfl ?_
      refine im_iload_n 9 12 rfl rfl ?_
      refine im_ci (S := [.int q1]) (fun _ hv => cpV (fr' := 2) (lo' := 42) (i := 10) (As := [.int q2]) (S := [.int q1]) (a := p0) (c := 2) rfl lk_G_66 mw_G_origins mv_G_origins rfl ⟨by decide, rfl⟩ rfl rfl rfl (gd_some hv).1 (sp_G_origins G hv)) (fun x1 => ?_)
      refine im_ci (S := [.int q1]) (fun _ hv => cpS (fr' := 1) (lo' := 20) (i := 11) (As := [.int x1]) (S := [.int q1]) rfl lk_G_57 mw_JI_bitCount mv_JI_bitCount rfl rfl rfl rfl (sp_JI_bitCount G hv)) (fun x2 => ?_)
      refine im_iadd 12 19 rfl ?_
      refine im_letI (fun x3 => ?_)
      refine im_istore_n 13 20 [some (.ref p0), some (.int x3), some (.int q2)] rfl rfl rfl ?_
      refine im_iincL 14 21 (fun x4 => [some (.ref p0), some (.int x3), some (.int x4)]) rfl rfl rfl rfl (fun _ => rfl) (fun x4 => ?_)
      refine im_goto 15 24 4 rfl (by decide) ?_
      exact im_less _ (by simp [lv_le]) (ih x3 x4)

set_option maxRecDepth 100000 in
set_option maxHeartbeats 4000000 in
theorem ip_G_countBackEdges (G : gl_T) (t : Nat) (M : mm_T) : im_I mi_G_countBackEdges 3 65 G M (sh_i M) (ff_G_countBackEdges t M) 0 [some (.ref t), none, none] [] M := by
  unfold ff_G_countBackEdges
  refine im_gd (fun hg => ?_)
  refine im_iconst 0 0 rfl rfl ?_
  refine im_istore_n 1 1 [some (.ref t), some (.int (0 : Int32)), none] rfl rfl rfl ?_
  refine im_iconst 2 2 rfl rfl ?_
  refine im_istore_n 3 3 [some (.ref t), some (.int (0 : Int32)), some (.int (0 : Int32))] rfl rfl rfl ?_
  refine im_less [some (.ref t), some (.int (0 : Int32)), some (.int (0 : Int32))] (by simp [lv_le]) ?_
  exact li_G_countBackEdges_4 G t M fu_L (0 : Int32) (0 : Int32)

theorem sp_G_countBackEdges (G : gl_T) {t : Nat} {M : mm_T} {y : Int32} (h : ff_G_countBackEdges t M = some y) : sp_S mi_G_countBackEdges 3 65 G [.ref t] M ((sh_i M) y).1 ((sh_i M) y).2 := sp_of mo_G_countBackEdges mw_G_countBackEdges (Or.inl (by decide +kernel)) rfl rfl (Or.inl rfl) (ip_G_countBackEdges G t M y h)

set_option maxRecDepth 100000 in
set_option maxHeartbeats 4000000 in
theorem ip_D_backEdges (G : gl_T) (t : Nat) (M : mm_T) : im_I mi_D_backEdges 6 132 G M sw_i (ff_D_backEdges t M) 0 [some (.ref t)] [] M := by
  unfold ff_D_backEdges
  refine im_gd (fun hg => ?_)
  refine im_aload_n 0 0 rfl rfl ?_
  refine im_cWr (S := []) (fun _ _ hv => cpV (fr' := 5) (lo' := 112) (i := 1) (As := []) (S := []) (a := t) (c := 10) rfl lk_D_165 mw_D_graph mv_D_graph rfl ⟨by decide, rfl⟩ rfl rfl rfl (gd_some hv).1 (sp_D_graph G hv)) (fun x1 M1 => ?_)
  refine im_ci (S := []) (fun _ hv => cpV (fr' := 3) (lo' := 65) (i := 2) (As := []) (S := []) (a := x1) (c := 2) rfl lk_D_275 mw_G_countBackEdges mv_G_countBackEdges rfl ⟨by decide, rfl⟩ rfl rfl rfl (gd_some hv).1 (sp_G_countBackEdges G hv)) (fun x2 => ?_)
  exact im_end rfl (wp_ireturn 3 7 rfl rfl)

theorem sp_D_backEdges (G : gl_T) {t : Nat} {M : mm_T} {y : Int32 × mm_T} (h : ff_D_backEdges t M = some y) : sp_S mi_D_backEdges 6 132 G [.ref t] M (sw_i y).1 (sw_i y).2 := sp_of mo_D_backEdges mw_D_backEdges (Or.inl (by decide +kernel)) rfl rfl (Or.inl rfl) (ip_D_backEdges G t M y h)

set_option maxRecDepth 100000 in
set_option maxHeartbeats 4000000 in
theorem ip_G_bodyOf (G : gl_T) (t : Nat) (a1 : Int32) (M : mm_T) : im_I mi_G_bodyOf 2 41 G M (sh_i M) (ff_G_bodyOf t a1 M) 0 [some (.ref t), some (.int a1)] [] M := by
  unfold ff_G_bodyOf
  refine im_gd (fun hg => ?_)
  refine im_aload_n 0 0 rfl rfl ?_
  refine im_getR 1 1 rfl fd_G_24 (by decide +kernel) (fun x1 => ?_)
  refine im_iload_n 2 4 rfl rfl ?_
  refine im_ci (S := []) (fun _ hv => cpS (fr' := 1) (lo' := 20) (i := 3) (As := [.ref x1, .int a1]) (S := []) rfl lk_G_62 mw_D_at_a mv_D_at_a rfl rfl rfl rfl (sp_D_at_a G hv)) (fun x2 => ?_)
  exact im_end rfl (wp_ireturn 4 8 rfl rfl)

theorem sp_G_bodyOf (G : gl_T) {t : Nat} {a1 : Int32} {M : mm_T} {y : Int32} (h : ff_G_bodyOf t a1 M = some y) : sp_S mi_G_bodyOf 2 41 G [.ref t, .int a1] M ((sh_i M) y).1 ((sh_i M) y).2 := sp_of mo_G_bodyOf mw_G_bodyOf (Or.inl (by decide +kernel)) rfl rfl (Or.inl rfl) (ip_G_bodyOf G t a1 M y h)

set_option maxRecDepth 100000 in
set_option maxHeartbeats 4000000 in
theorem ip_D_loopSize (G : gl_T) (t : Nat) (a1 : Int32) (M : mm_T) : im_I mi_D_loopSize 7 132 G M sX_i (ff_D_loopSize t a1 M) 0 [some (.ref t), some (.int a1)] [] M := by
  unfold ff_D_loopSize
  refine im_gd (fun hg => ?_)
  refine im_aload_n 0 0 rfl rfl ?_
  refine im_iload_n 1 1 rfl rfl ?_
  refine im_rq (S := []) (fun hv => cpV (fr' := 6) (lo' := 90) (i := 2) (As := [.int a1]) (S := []) (a := t) (c := 10) rfl lk_D_137 mw_D_requireBlock mv_D_requireBlock rfl ⟨by decide, rfl⟩ rfl rfl rfl (gd_some hv).1 (sp_D_requireBlock G hv)) (fun _ hv => xpV (fr' := 6) (lo' := 90) (i := 2) (As := [.int a1]) (S := []) (a := t) (c := 10) rfl lm_D_137 mw_D_requireBlock mv_D_requireBlock rfl ⟨by decide, rfl⟩ rfl rfl rfl (gd_some hv).1 (sp_D_requireBlock G hv) (tw_out rfl)) (fun _ => rfl) ?_
  refine im_aload_n 3 5 rfl rfl ?_
  refine im_cWr (S := []) (fun _ _ hv => cpV (fr' := 5) (lo' := 112) (i := 4) (As := []) (S := []) (a := t) (c := 10) rfl lk_D_165 mw_D_graph mv_D_graph rfl ⟨by decide, rfl⟩ rfl rfl rfl (gd_some hv).1 (sp_D_graph G hv)) (fun x1 M1 => ?_)
  refine im_iload_n 5 9 rfl rfl ?_
  refine im_ci (S := []) (fun _ hv => cpV (fr' := 2) (lo' := 41) (i := 6) (As := [.int a1]) (S := []) (a := x1) (c := 2) rfl lk_D_278 mw_G_bodyOf mv_G_bodyOf rfl ⟨by decide, rfl⟩ rfl rfl rfl (gd_some hv).1 (sp_G_bodyOf G hv)) (fun x2 => ?_)
  refine im_ci (S := []) (fun _ hv => cpS (fr' := 1) (lo' := 20) (i := 7) (As := [.int x2]) (S := []) rfl lk_D_172 mw_JI_bitCount mv_JI_bitCount rfl rfl rfl rfl (sp_JI_bitCount G hv)) (fun x3 => ?_)
  exact im_end rfl (wp_ireturn 8 16 rfl rfl)

theorem sp_D_loopSize (G : gl_T) {t : Nat} {a1 : Int32} {M : mm_T} {y : (Int32 ⊕ String) × mm_T} (h : ff_D_loopSize t a1 M = some y) : sp_S mi_D_loopSize 7 132 G [.ref t, .int a1] M (sX_i y).1 (sX_i y).2 := sp_of mo_D_loopSize mw_D_loopSize (Or.inl (by decide +kernel)) rfl rfl (Or.inl rfl) (ip_D_loopSize G t a1 M y h)

set_option maxRecDepth 100000 in
set_option maxHeartbeats 4000000 in
theorem li_G_countBodiesWith_4 (G : gl_T) (p0 : Nat) (p1 : Int32) (M : mm_T) : ∀ (fu : Nat) (q2 : Int32) (q3 : Int32), im_I mi_G_countBodiesWith 2 42 G M (sh_i M) (lf_G_countBodiesWith_4 p0 p1 M fu q2 q3) 4 [some (.ref p0), some (.int p1), some (.int q2), some (.int q3)] [] M := by
  intro fu
  induction fu with
  | zero => intro _ _; exact im_none
  | succ fu ih =>
    intro q2 q3
    show im_I mi_G_countBodiesWith 2 42 G M (sh_i M) (lb_G_countBodiesWith_4 p0 p1 M (lf_G_countBodiesWith_4 p0 p1 M fu) q2 q3) 4 [some (.ref p0), some (.int p1), some (.int q2), some (.int q3)] [] M
    unfold lb_G_countBodiesWith_4
    refine im_iload_n 4 4 rfl rfl ?_
    refine im_bipush 5 5 rfl rfl ?_
    refine im_ic_ge 6 7 40 rfl (by decide) ?_ ?_
    · refine im_iload_n 23 40 rfl rfl ?_
      exact im_end rfl (wp_ireturn 24 41 rfl rfl)
    · refine im_iload_n 7 10 rfl rfl ?_
      refine im_aload_n 8 11 rfl rfl ?_
      refine im_getR 9 12 rfl fd_G_24 (by decide +kernel) (fun x1 => ?_)
      refine im_iload_n 10 15 rfl rfl ?_
      refine im_ci (S := [.int q2]) (fun _ hv => cpS (fr' := 1) (lo' := 20) (i := 11) (As := [.ref x1, .int q3]) (S := [.int q2]) rfl lk_G_62 mw_D_at_a mv_D_at_a rfl rfl rfl rfl (sp_D_at_a G hv)) (fun x2 => ?_)
      refine im_i2l 12 19 rfl ?_
      refine im_iload_n 13 20 rfl rfl ?_
      refine im_ci (S := [.int q2]) (fun _ hv => cpS (fr' := 1) (lo' := 20) (i := 14) (As := [.long ((x2).toInt64), .int p1]) (S := [.int q2]) rfl lk_G_53 mw_D_hasBit mv_D_hasBit rfl rfl rfl rfl (sp_D_hasBit G hv)) (fun x3 => ?_)
      refine im_jp (fun j32 => ∀ (x4 : Int32), im_I mi_G_countBodiesWith 2 42 G M (sh_i M) (j32 x4) 32 [some (.ref p0), some (.int p1), none, some (.int q3)] [.int x4, .int q2] M) ?_ (fun j32 hj32 => ?_)
      · intro x4
        show im_I mi_G_countBodiesWith 2 42 G M (sh_i M) (_) 32 [some (.ref p0), some (.int p1), none, some (.int q3)] [.int x4, .int q2] M
        refine im_iadd 19 32 rfl ?_
        refine im_letI (fun x5 => ?_)
        refine im_istore_n 20 33 [some (.ref p0), some (.int p1), some (.int x5), some (.int q3)] rfl rfl rfl ?_
        refine im_iincL 21 34 (fun x6 => [some (.ref p0), some (.int p1), some (.int x5), some (.int x6)]) rfl rfl rfl rfl (fun _ => rfl) (fun x6 => ?_)
        refine im_goto 22 37 4 rfl (by decide) ?_
        exact im_less _ (by simp [lv_le]) (ih x5 x6)
      refine im_if_eq 15 24 31 rfl (by decide) ?_ ?_
      · refine im_iconst 18 31 rfl rfl ?_
        exact im_less _ (by simp [lv_le]) (hj32 (0 : Int32))
      · refine im_iconst 16 27 rfl rfl ?_
        refine im_goto 17 28 32 rfl (by decide) ?_
        exact im_less _ (by simp [lv_le]) (hj32 (1 : Int32))

set_option maxRecDepth 100000 in
set_option maxHeartbeats 4000000 in
theorem ip_G_countBodiesWith (G : gl_T) (t : Nat) (a1 : Int32) (M : mm_T) : im_I mi_G_countBodiesWith 2 42 G M (sh_i M) (ff_G_countBodiesWith t a1 M) 0 [some (.ref t), some (.int a1), none, none] [] M := by
  unfold ff_G_countBodiesWith
  refine im_gd (fun hg => ?_)
  refine im_iconst 0 0 rfl rfl ?_
  refine im_istore_n 1 1 [some (.ref t), some (.int a1), some (.int (0 : Int32)), none] rfl rfl rfl ?_
  refine im_iconst 2 2 rfl rfl ?_
  refine im_istore_n 3 3 [some (.ref t), some (.int a1), some (.int (0 : Int32)), some (.int (0 : Int32))] rfl rfl rfl ?_
  refine im_less [some (.ref t), some (.int a1), some (.int (0 : Int32)), some (.int (0 : Int32))] (by simp [lv_le]) ?_
  exact li_G_countBodiesWith_4 G t a1 M fu_L (0 : Int32) (0 : Int32)

theorem sp_G_countBodiesWith (G : gl_T) {t : Nat} {a1 : Int32} {M : mm_T} {y : Int32} (h : ff_G_countBodiesWith t a1 M = some y) : sp_S mi_G_countBodiesWith 2 42 G [.ref t, .int a1] M ((sh_i M) y).1 ((sh_i M) y).2 := sp_of mo_G_countBodiesWith mw_G_countBodiesWith (Or.inl (by decide +kernel)) rfl rfl (Or.inl rfl) (ip_G_countBodiesWith G t a1 M y h)

set_option maxRecDepth 100000 in
set_option maxHeartbeats 4000000 in
theorem ip_D_loopDepth (G : gl_T) (t : Nat) (a1 : Int32) (M : mm_T) : im_I mi_D_loopDepth 7 132 G M sX_i (ff_D_loopDepth t a1 M) 0 [some (.ref t), some (.int a1)] [] M := by
  unfold ff_D_loopDepth
  refine im_gd (fun hg => ?_)
  refine im_aload_n 0 0 rfl rfl ?_
  refine im_iload_n 1 1 rfl rfl ?_
  refine im_rq (S := []) (fun hv => cpV (fr' := 6) (lo' := 90) (i := 2) (As := [.int a1]) (S := []) (a := t) (c := 10) rfl lk_D_137 mw_D_requireBlock mv_D_requireBlock rfl ⟨by decide, rfl⟩ rfl rfl rfl (gd_some hv).1 (sp_D_requireBlock G hv)) (fun _ hv => xpV (fr' := 6) (lo' := 90) (i := 2) (As := [.int a1]) (S := []) (a := t) (c := 10) rfl lm_D_137 mw_D_requireBlock mv_D_requireBlock rfl ⟨by decide, rfl⟩ rfl rfl rfl (gd_some hv).1 (sp_D_requireBlock G hv) (tw_out rfl)) (fun _ => rfl) ?_
  refine im_aload_n 3 5 rfl rfl ?_
  refine im_cWr (S := []) (fun _ _ hv => cpV (fr' := 5) (lo' := 112) (i := 4) (As := []) (S := []) (a := t) (c := 10) rfl lk_D_165 mw_D_graph mv_D_graph rfl ⟨by decide, rfl⟩ rfl rfl rfl (gd_some hv).1 (sp_D_graph G hv)) (fun x1 M1 => ?_)
  refine im_iload_n 5 9 rfl rfl ?_
  refine im_ci (S := []) (fun _ hv => cpV (fr' := 2) (lo' := 42) (i := 6) (As := [.int a1]) (S := []) (a := x1) (c := 2) rfl lk_D_281 mw_G_countBodiesWith mv_G_countBodiesWith rfl ⟨by decide, rfl⟩ rfl rfl rfl (gd_some hv).1 (sp_G_countBodiesWith G hv)) (fun x2 => ?_)
  exact im_end rfl (wp_ireturn 7 13 rfl rfl)

theorem sp_D_loopDepth (G : gl_T) {t : Nat} {a1 : Int32} {M : mm_T} {y : (Int32 ⊕ String) × mm_T} (h : ff_D_loopDepth t a1 M = some y) : sp_S mi_D_loopDepth 7 132 G [.ref t, .int a1] M (sX_i y).1 (sX_i y).2 := sp_of mo_D_loopDepth mw_D_loopDepth (Or.inl (by decide +kernel)) rfl rfl (Or.inl rfl) (ip_D_loopDepth G t a1 M y h)

set_option maxRecDepth 100000 in
set_option maxHeartbeats 4000000 in
theorem ip_C_stateBefore (G : gl_T) (t : Nat) (a1 : Int32) (a2 : Int32) (M : mm_T) : im_I mi_C_stateBefore 2 41 G M (sh_i M) (ff_C_stateBefore t a1 a2 M) 0 [some (.ref t), some (.int a1), some (.int a2)] [] M := by
  unfold ff_C_stateBefore
  refine im_gd (fun hg => ?_)
  refine im_aload_n 0 0 rfl rfl ?_
  refine im_getR 1 1 rfl fd_C_9 (by decide +kernel) (fun x1 => ?_)
  refine im_iload_n 2 4 rfl rfl ?_
  refine im_bipush 3 5 rfl rfl ?_
  refine im_imul 4 7 rfl ?_
  refine im_iload_n 5 8 rfl rfl ?_
  refine im_iadd 6 9 rfl ?_
  refine im_ci (S := []) (fun _ hv => cpS (fr' := 1) (lo' := 20) (i := 7) (As := [.ref x1, .int ((a1 * (8 : Int32)) + a2)]) (S := []) rfl lk_C_62 mw_D_at_a mv_D_at_a rfl rfl rfl rfl (sp_D_at_a G hv)) (fun x2 => ?_)
  exact im_end rfl (wp_ireturn 8 13 rfl rfl)

theorem sp_C_stateBefore (G : gl_T) {t : Nat} {a1 : Int32} {a2 : Int32} {M : mm_T} {y : Int32} (h : ff_C_stateBefore t a1 a2 M = some y) : sp_S mi_C_stateBefore 2 41 G [.ref t, .int a1, .int a2] M ((sh_i M) y).1 ((sh_i M) y).2 := sp_of mo_C_stateBefore mw_C_stateBefore (Or.inl (by decide +kernel)) rfl rfl (Or.inl rfl) (ip_C_stateBefore G t a1 a2 M y h)

set_option maxRecDepth 100000 in
set_option maxHeartbeats 4000000 in
theorem ip_C_meet (G : gl_T) (t : Nat) (a1 : Int32) (a2 : Int32) (a3 : Int32) (M : mm_T) : im_I mi_C_meet 3 63 G M sw_i (ff_C_meet t a1 a2 a3 M) 0 [some (.ref t), some (.int a1), some (.int a2), some (.int a3), none] [] M := by
  unfold ff_C_meet
  refine im_gd (fun hg => ?_)
  refine im_aload_n 0 0 rfl rfl ?_
  refine im_iload_n 1 1 rfl rfl ?_
  refine im_iload_n 2 2 rfl rfl ?_
  refine im_ci (S := []) (fun _ hv => cpV (fr' := 2) (lo' := 41) (i := 3) (As := [.int a1, .int a2]) (S := []) (a := t) (c := 1) rfl lk_C_53 mw_C_stateBefore mv_C_stateBefore rfl ⟨by decide, rfl⟩ rfl rfl rfl (gd_some hv).1 (sp_C_stateBefore G hv)) (fun x1 => ?_)
  refine im_istore 4 6 [some (.ref t), some (.int a1), some (.int a2), some (.int a3), some (.int x1)] rfl rfl rfl ?_
  refine im_iload_n 5 8 rfl rfl ?_
  refine im_bipush 6 9 rfl rfl ?_
  refine im_ic_eq 7 11 26 rfl (by decide) ?_ ?_
  · refine im_iconst 14 26 rfl rfl ?_
    exact im_end rfl (wp_zreturn 15 27 (ty := .boolean) rfl (by first | exact nz_0 | exact nz_1) rfl)
  · refine im_iload_n 8 14 rfl rfl ?_
    refine im_iload 9 15 rfl rfl ?_
    refine im_ic_eq 10 17 26 rfl (by decide) ?_ ?_
    · refine im_iconst 14 26 rfl rfl ?_
      exact im_end rfl (wp_zreturn 15 27 (ty := .boolean) rfl (by first | exact nz_0 | exact nz_1) rfl)
    · refine im_iload 11 20 rfl rfl ?_
      refine im_iconst 12 22 rfl rfl ?_
      refine im_ic_ne 13 23 28 rfl (by decide) ?_ ?_
      · refine im_aload_n 16 28 rfl rfl ?_
        refine im_getR 17 29 rfl fd_C_9 (by decide +kernel) (fun x2 => ?_)
        refine im_iload_n 18 32 rfl rfl ?_
        refine im_bipush 19 33 rfl rfl ?_
        refine im_imul 20 35 rfl ?_
        refine im_iload_n 21 36 rfl rfl ?_
        refine im_iadd 22 37 rfl ?_
        refine im_iload 23 38 rfl rfl ?_
        refine im_bipush 24 40 rfl rfl ?_
        refine im_jp (fun j50 => ∀ (x3 : Int32), im_I mi_C_meet 3 63 G M sw_i (j50 x3) 50 [none, none, none, none, none] [.int x3, .int ((a1 * (8 : Int32)) + a2), .ref x2] M) ?_ (fun j50 hj50 => ?_)
        · intro x3
          show im_I mi_C_meet 3 63 G M sw_i (_) 50 [none, none, none, none, none] [.int x3, .int ((a1 * (8 : Int32)) + a2), .ref x2] M
          refine im_cWv (S := []) (fun _ hv => cpS (fr' := 1) (lo' := 20) (i := 29) (As := [.ref x2, .int ((a1 * (8 : Int32)) + a2), .int x3]) (S := []) rfl lk_C_91 mw_D_put_a mv_D_put_a rfl rfl rfl rfl (sp_D_put_a G hv)) (fun M1 => ?_)
          refine im_iconst 30 53 rfl rfl ?_
          exact im_end rfl (wp_zreturn 31 54 (ty := .boolean) rfl (by first | exact nz_0 | exact nz_1) rfl)
        refine im_ic_ne 25 42 49 rfl (by decide) ?_ ?_
        · refine im_iconst 28 49 rfl rfl ?_
          exact im_less _ (by simp [lv_le]) (hj50 (-1 : Int32))
        · refine im_iload_n 26 45 rfl rfl ?_
          refine im_goto 27 46 50 rfl (by decide) ?_
          exact im_less _ (by simp [lv_le]) (hj50 a3)
      · refine im_iconst 14 26 rfl rfl ?_
        exact im_end rfl (wp_zreturn 15 27 (ty := .boolean) rfl (by first | exact nz_0 | exact nz_1) rfl)

theorem sp_C_meet (G : gl_T) {t : Nat} {a1 : Int32} {a2 : Int32} {a3 : Int32} {M : mm_T} {y : Int32 × mm_T} (h : ff_C_meet t a1 a2 a3 M = some y) : sp_S mi_C_meet 3 63 G [.ref t, .int a1, .int a2, .int a3] M (sw_i y).1 (sw_i y).2 := sp_of mo_C_meet mw_C_meet (Or.inl (by decide +kernel)) rfl rfl (Or.inl rfl) (ip_C_meet G t a1 a2 a3 M y h)

set_option maxRecDepth 100000 in
set_option maxHeartbeats 4000000 in
theorem ip_O_constant (G : gl_T) (a1 : Int32) (M : mm_T) : im_I mi_O_constant 1 20 G M (sh_i M) (ff_O_constant a1 M) 0 [some (.int a1)] [] M := by
  unfold ff_O_constant
  refine im_iload_n 0 0 rfl rfl ?_
  refine im_bipush 1 1 rfl rfl ?_
  refine im_iushr 2 3 rfl ?_
  refine im_sipush 3 4 rfl rfl ?_
  refine im_iand 4 7 rfl ?_
  exact im_end rfl (wp_ireturn 5 8 rfl rfl)

theorem sp_O_constant (G : gl_T) {a1 : Int32} {M : mm_T} {y : Int32} (h : ff_O_constant a1 M = some y) : sp_S mi_O_constant 1 20 G [.int a1] M ((sh_i M) y).1 ((sh_i M) y).2 := sp_of mo_O_constant mw_O_constant (Or.inl (by decide +kernel)) rfl rfl (Or.inl rfl) (ip_O_constant G a1 M y h)

set_option maxRecDepth 100000 in
set_option maxHeartbeats 4000000 in
theorem ip_O_operator (G : gl_T) (a1 : Int32) (M : mm_T) : im_I mi_O_operator 1 20 G M (sh_i M) (ff_O_operator a1 M) 0 [some (.int a1)] [] M := by
  unfold ff_O_operator
  refine im_iload_n 0 0 rfl rfl ?_
  refine im_bipush 1 1 rfl rfl ?_
  refine im_iushr 2 3 rfl ?_
  refine im_iconst 3 4 rfl rfl ?_
  refine im_iand 4 5 rfl ?_
  exact im_end rfl (wp_ireturn 5 6 rfl rfl)

theorem sp_O_operator (G : gl_T) {a1 : Int32} {M : mm_T} {y : Int32} (h : ff_O_operator a1 M = some y) : sp_S mi_O_operator 1 20 G [.int a1] M ((sh_i M) y).1 ((sh_i M) y).2 := sp_of mo_O_operator mw_O_operator (Or.inl (by decide +kernel)) rfl rfl (Or.inl rfl) (ip_O_operator G a1 M y h)

set_option maxRecDepth 100000 in
set_option maxHeartbeats 4000000 in
theorem ip_JM_floorMod (G : gl_T) (a1 : Int32) (a2 : Int32) (M : mm_T) : im_I mi_JM_floorMod 1 20 G M (sh_i M) (ff_JM_floorMod a1 a2 M) 0 [some (.int a1), some (.int a2), none] [] M := by
  unfold ff_JM_floorMod
  refine im_iload_n 0 0 rfl rfl ?_
  refine im_iload_n 1 1 rfl rfl ?_
  refine im_irem 2 2 rfl (fun x1 => ?_)
  refine im_istore_n 3 3 [some (.int a1), some (.int a2), some (.int x1)] rfl rfl rfl ?_
  refine im_iload_n 4 4 rfl rfl ?_
  refine im_iload_n 5 5 rfl rfl ?_
  refine im_ixor 6 6 rfl ?_
  refine im_if_ge 7 7 18 rfl (by decide) ?_ ?_
  · refine im_iload_n 14 18 rfl rfl ?_
    exact im_end rfl (wp_ireturn 15 19 rfl rfl)
  · refine im_iload_n 8 10 rfl rfl ?_
    refine im_if_eq 9 11 18 rfl (by decide) ?_ ?_
    · refine im_iload_n 14 18 rfl rfl ?_
      exact im_end rfl (wp_ireturn 15 19 rfl rfl)
    · refine im_iload_n 10 14 rfl rfl ?_
      refine im_iload_n 11 15 rfl rfl ?_
      refine im_iadd 12 16 rfl ?_
      exact im_end rfl (wp_ireturn 13 17 rfl rfl)

theorem sp_JM_floorMod (G : gl_T) {a1 : Int32} {a2 : Int32} {M : mm_T} {y : Int32} (h : ff_JM_floorMod a1 a2 M = some y) : sp_S mi_JM_floorMod 1 20 G [.int a1, .int a2] M ((sh_i M) y).1 ((sh_i M) y).2 := sp_of mo_JM_floorMod mw_JM_floorMod (Or.inr ⟨rfl, _, rfl⟩) rfl rfl (Or.inl rfl) (ip_JM_floorMod G a1 a2 M y h)

set_option maxRecDepth 100000 in
set_option maxHeartbeats 4000000 in
theorem ip_O_result (G : gl_T) (a1 : Int32) (a2 : Int32) (a3 : Int32) (M : mm_T) : im_I mi_O_result 2 42 G M (sh_i M) (ff_O_result a1 a2 a3 M) 0 [some (.int a1), some (.int a2), some (.int a3)] [] M := by
  unfold ff_O_result
  refine im_iload_n 0 0 rfl rfl ?_
  refine im_if_ne 1 1 14 rfl (by decide) ?_ ?_
  · refine im_iload_n 8 14 rfl rfl ?_
    refine im_iconst 9 15 rfl rfl ?_
    refine im_jp (fun j28 => ∀ (x1 : Int32), im_I mi_O_result 2 42 G M (sh_i M) (j28 x1) 28 [none, none, none] [.int x1] M) ?_ (fun j28 hj28 => ?_)
    · intro x1
      show im_I mi_O_result 2 42 G M (sh_i M) (_) 28 [none, none, none] [.int x1] M
      refine im_sipush 18 28 rfl rfl ?_
      refine im_ci (S := []) (fun _ hv => cpS (fr' := 1) (lo' := 20) (i := 19) (As := [.int x1, .int (1000 : Int32)]) (S := []) rfl lk_O_15 mw_JM_floorMod mv_JM_floorMod rfl rfl rfl rfl (sp_JM_floorMod G hv)) (fun x2 => ?_)
      exact im_end rfl (wp_ireturn 20 34 rfl rfl)
    refine im_ic_ne 10 16 25 rfl (by decide) ?_ ?_
    · refine im_iload_n 15 25 rfl rfl ?_
      refine im_iload_n 16 26 rfl rfl ?_
      refine im_imul 17 27 rfl ?_
      exact im_less _ (by simp [lv_le]) (hj28 ((a2 * a3)))
    · refine im_iload_n 11 19 rfl rfl ?_
      refine im_iload_n 12 20 rfl rfl ?_
      refine im_isub 13 21 rfl ?_
      refine im_goto 14 22 28 rfl (by decide) ?_
      exact im_less _ (by simp [lv_le]) (hj28 ((a2 - a3)))
  · refine im_iload_n 2 4 rfl rfl ?_
    refine im_iload_n 3 5 rfl rfl ?_
    refine im_iadd 4 6 rfl ?_
    refine im_sipush 5 7 rfl rfl ?_
    refine im_ci (S := []) (fun _ hv => cpS (fr' := 1) (lo' := 20) (i := 6) (As := [.int (a2 + a3), .int (1000 : Int32)]) (S := []) rfl lk_O_15 mw_JM_floorMod mv_JM_floorMod rfl rfl rfl rfl (sp_JM_floorMod G hv)) (fun x3 => ?_)
    exact im_end rfl (wp_ireturn 7 13 rfl rfl)

theorem sp_O_result (G : gl_T) {a1 : Int32} {a2 : Int32} {a3 : Int32} {M : mm_T} {y : Int32} (h : ff_O_result a1 a2 a3 M = some y) : sp_S mi_O_result 2 42 G [.int a1, .int a2, .int a3] M ((sh_i M) y).1 ((sh_i M) y).2 := sp_of mo_O_result mw_O_result (Or.inl (by decide +kernel)) rfl rfl (Or.inl rfl) (ip_O_result G a1 a2 a3 M y h)

set_option maxRecDepth 100000 in
set_option maxHeartbeats 4000000 in
theorem ip_C_stateOfResult (G : gl_T) (t : Nat) (a1 : Int32) (a2 : Int32) (M : mm_T) : im_I mi_C_stateOfResult 3 64 G M (sh_i M) (ff_C_stateOfResult t a1 a2 M) 0 [some (.ref t), some (.int a1), some (.int a2), none, none, none] [] M := by
  unfold ff_C_stateOfResult
  refine im_gd (fun hg => ?_)
  refine im_iload_n 0 0 rfl rfl ?_
  refine im_ci (S := []) (fun _ hv => cpS (fr' := 1) (lo' := 20) (i := 1) (As := [.int a2]) (S := []) rfl lk_C_101 mw_O_kind mv_O_kind rfl rfl rfl rfl (sp_O_kind G hv)) (fun x1 => ?_)
  refine im_istore_n 2 4 [some (.ref t), some (.int a1), some (.int a2), some (.int x1), none, none] rfl rfl rfl ?_
  refine im_iload_n 3 5 rfl rfl ?_
  refine im_if_ne 4 6 14 rfl (by decide) ?_ ?_
  · refine im_aload_n 8 14 rfl rfl ?_
    refine im_iload_n 9 15 rfl rfl ?_
    refine im_iload_n 10 16 rfl rfl ?_
    refine im_ci (S := [.int a1, .ref t]) (fun _ hv => cpS (fr' := 1) (lo' := 20) (i := 11) (As := [.int a2]) (S := [.int a1, .ref t]) rfl lk_C_109 mw_O_left mv_O_left rfl rfl rfl rfl (sp_O_left G hv)) (fun x2 => ?_)
    refine im_ci (S := []) (fun _ hv => cpV (fr' := 2) (lo' := 41) (i := 12) (As := [.int a1, .int x2]) (S := []) (a := t) (c := 1) rfl lk_C_53 mw_C_stateBefore mv_C_stateBefore rfl ⟨by decide, rfl⟩ rfl rfl rfl (gd_some hv).1 (sp_C_stateBefore G hv)) (fun x3 => ?_)
    refine im_istore 13 23 [some (.ref t), some (.int a1), some (.int a2), some (.int x1), some (.int x3), none] rfl rfl rfl ?_
    refine im_iload_n 14 25 rfl rfl ?_
    refine im_iconst 15 26 rfl rfl ?_
    refine im_ic_ne 16 27 33 rfl (by decide) ?_ ?_
    · refine im_aload_n 19 33 rfl rfl ?_
      refine im_iload_n 20 34 rfl rfl ?_
      refine im_iload_n 21 35 rfl rfl ?_
      refine im_ci (S := [.int a1, .ref t]) (fun _ hv => cpS (fr' := 1) (lo' := 20) (i := 22) (As := [.int a2]) (S := [.int a1, .ref t]) rfl lk_C_112 mw_O_right mv_O_right rfl rfl rfl rfl (sp_O_right G hv)) (fun x4 => ?_)
      refine im_ci (S := []) (fun _ hv => cpV (fr' := 2) (lo' := 41) (i := 23) (As := [.int a1, .int x4]) (S := []) (a := t) (c := 1) rfl lk_C_53 mw_C_stateBefore mv_C_stateBefore rfl ⟨by decide, rfl⟩ rfl rfl rfl (gd_some hv).1 (sp_C_stateBefore G hv)) (fun x5 => ?_)
      refine im_istore 24 42 [some (.ref t), some (.int a1), some (.int a2), some (.int x1), some (.int x3), some (.int x5)] rfl rfl rfl ?_
      refine im_iload 25 44 rfl rfl ?_
      refine im_jp (fun j66 => im_I mi_C_stateOfResult 3 64 G M (sh_i M) (j66) 66 [none, none, none, none, some (.int x3), some (.int x5)] [] M) ?_ (fun j66 hj66 => ?_)
      · show im_I mi_C_stateOfResult 3 64 G M (sh_i M) (_) 66 [none, none, none, none, some (.int x3), some (.int x5)] [] M
        refine im_iload 35 66 rfl rfl ?_
        refine im_iconst 36 68 rfl rfl ?_
        refine im_jp (fun j78 => im_I mi_C_stateOfResult 3 64 G M (sh_i M) (j78) 78 [none, none, none, none, none, none] [] M) ?_ (fun j78 hj78 => ?_)
        · show im_I mi_C_stateOfResult 3 64 G M (sh_i M) (_) 78 [none, none, none, none, none, none] [] M
          refine im_iconst 41 78 rfl rfl ?_
          refine im_goto 42 79 84 rfl (by decide) ?_
          exact im_end rfl (wp_ireturn 44 84 rfl rfl)
        refine im_ic_eq 37 69 78 rfl (by decide) ?_ ?_
        · exact im_less _ (by simp [lv_le]) (hj78)
        · refine im_iload 38 72 rfl rfl ?_
          refine im_iconst 39 74 rfl rfl ?_
          refine im_ic_ne 40 75 82 rfl (by decide) ?_ ?_
          · refine im_bipush 43 82 rfl rfl ?_
            exact im_end rfl (wp_ireturn 44 84 rfl rfl)
          · exact im_less _ (by simp [lv_le]) (hj78)
      refine im_if_lt 26 46 66 rfl (by decide) ?_ ?_
      · exact im_less _ (by simp [lv_le]) (hj66)
      · refine im_iload 27 49 rfl rfl ?_
        refine im_if_lt 28 51 66 rfl (by decide) ?_ ?_
        · exact im_less _ (by simp [lv_le]) (hj66)
        · refine im_iload_n 29 54 rfl rfl ?_
          refine im_ci (S := []) (fun _ hv => cpS (fr' := 1) (lo' := 20) (i := 30) (As := [.int a2]) (S := []) rfl lk_C_115 mw_O_operator mv_O_operator rfl rfl rfl rfl (sp_O_operator G hv)) (fun x6 => ?_)
          refine im_iload 31 58 rfl rfl ?_
          refine im_iload 32 60 rfl rfl ?_
          refine im_ci (S := []) (fun _ hv => cpS (fr' := 2) (lo' := 42) (i := 33) (As := [.int x6, .int x3, .int x5]) (S := []) rfl lk_C_118 mw_O_result mv_O_result rfl rfl rfl rfl (sp_O_result G hv)) (fun x7 => ?_)
          exact im_end rfl (wp_ireturn 34 65 rfl rfl)
    · refine im_iload 17 30 rfl rfl ?_
      exact im_end rfl (wp_ireturn 18 32 rfl rfl)
  · refine im_iload_n 5 9 rfl rfl ?_
    refine im_ci (S := []) (fun _ hv => cpS (fr' := 1) (lo' := 20) (i := 6) (As := [.int a2]) (S := []) rfl lk_C_106 mw_O_constant mv_O_constant rfl rfl rfl rfl (sp_O_constant G hv)) (fun x8 => ?_)
    exact im_end rfl (wp_ireturn 7 13 rfl rfl)

theorem sp_C_stateOfResult (G : gl_T) {t : Nat} {a1 : Int32} {a2 : Int32} {M : mm_T} {y : Int32} (h : ff_C_stateOfResult t a1 a2 M = some y) : sp_S mi_C_stateOfResult 3 64 G [.ref t, .int a1, .int a2] M ((sh_i M) y).1 ((sh_i M) y).2 := sp_of mo_C_stateOfResult mw_C_stateOfResult (Or.inl (by decide +kernel)) rfl rfl (Or.inl rfl) (ip_C_stateOfResult G t a1 a2 M y h)

set_option maxRecDepth 100000 in
set_option maxHeartbeats 4000000 in
theorem li_C_flow_57 (G : gl_T) (M0 : mm_T) (k0 : Int32 → mm_T → Option (Int32 × mm_T)) (p0 : Nat) (p1 : Nat) (p2 : Int32) (p3 : Int32) (p5 : Int32) (p6 : Int32) (hk0 : ∀ (z4 : Int32) (N : mm_T), im_I mi_C_flow 4 89 G M0 sw_i (k0 z4 N) 112 [some (.ref p0), some (.ref p1), some (.int p2), some (.int p3), some (.int z4), some (.int p5), none, none, none] [] N) : ∀ (fu : Nat) (q4 : Int32) (q7 : Int32) (N : mm_T), im_I mi_C_flow 4 89 G M0 sw_i (lf_C_flow_57 k0 p0 p1 p2 p3 p5 p6 fu q4 q7 N) 57 [some (.ref p0), some (.ref p1), some (.int p2), some (.int p3), some (.int q4), some (.int p5), some (.int p6), some (.int q7), none] [] N := by
  intro fu
  induction fu with
  | zero => intro _ _ _; exact im_none
  | succ fu ih =>
    intro q4 q7 N
    show im_I mi_C_flow 4 89 G M0 sw_i (lb_C_flow_57 k0 p0 p1 p2 p3 p5 p6 (lf_C_flow_57 k0 p0 p1 p2 p3 p5 p6 fu) q4 q7 N) 57 [some (.ref p0), some (.ref p1), some (.int p2), some (.int p3), some (.int q4), some (.int p5), some (.int p6), some (.int q7), none] [] N
    unfold lb_C_flow_57
    refine im_iload 33 57 rfl rfl ?_
    refine im_bipush 34 59 rfl rfl ?_
    refine im_ic_ge 35 61 112 rfl (by decide) ?_ ?_
    · exact im_less _ (by simp [lv_le]) (hk0 q4 N)
    · refine im_iload 36 64 rfl rfl ?_
      refine im_iload_n 37 66 rfl rfl ?_
      refine im_jp (fun j88 => ∀ (x4 : Int32), im_I mi_C_flow 4 89 G M0 sw_i (j88 x4) 88 [some (.ref p0), some (.ref p1), some (.int p2), some (.int p3), some (.int q4), some (.int p5), some (.int p6), some (.int q7), none] [.int x4] N) ?_ (fun j88 hj88 => ?_)
      · intro x4
        show im_I mi_C_flow 4 89 G M0 sw_i (_) 88 [some (.ref p0), some (.ref p1), some (.int p2), some (.int p3), some (.int q4), some (.int p5), some (.int p6), some (.int q7), none] [.int x4] N
        refine im_istore 48 88 [some (.ref p0), some (.ref p1), some (.int p2), some (.int p3), some (.int q4), some (.int p5), some (.int p6), some (.int q7), some (.int x4)] rfl rfl rfl ?_
        refine im_aload_n 49 90 rfl rfl ?_
        refine im_iload 50 91 rfl rfl ?_
        refine im_iload 51 93 rfl rfl ?_
        refine im_iload 52 95 rfl rfl ?_
        refine im_cWi (S := []) (fun _ _ hv => cpV (fr' := 3) (lo' := 63) (i := 53) (As := [.int p6, .int q7, .int x4]) (S := []) (a := p0) (c := 1) rfl lk_C_28 mw_C_meet mv_C_meet rfl ⟨by decide, rfl⟩ rfl rfl rfl (gd_some hv).1 (sp_C_meet G hv)) (fun x5 M2 => ?_)
        refine im_jp (fun j106 => ∀ (x6 : Int32), im_I mi_C_flow 4 89 G M0 sw_i (j106 x6) 106 [some (.ref p0), some (.ref p1), some (.int p2), some (.int p3), some (.int x6), some (.int p5), some (.int p6), some (.int q7), none] [] M2) ?_ (fun j106 hj106 => ?_)
        · intro x6
          show im_I mi_C_flow 4 89 G M0 sw_i (_) 106 [some (.ref p0), some (.ref p1), some (.int p2), some (.int p3), some (.int x6), some (.int p5), some (.int p6), some (.int q7), none] [] M2
          refine im_iincL 57 106 (fun x7 => [some (.ref p0), some (.ref p1), some (.int p2), some (.int p3), some (.int x6), some (.int p5), some (.int p6), some (.int x7), none]) rfl rfl rfl rfl (fun _ => rfl) (fun x7 => ?_)
          refine im_goto 58 109 57 rfl (by decide) ?_
          exact im_less _ (by simp [lv_le]) (ih x6 x7 M2)
        refine im_if_eq 54 100 106 rfl (by decide) ?_ ?_
        · exact im_less _ (by simp [lv_le]) (hj106 q4)
        · refine im_iconst 55 103 rfl rfl ?_
          refine im_istore 56 104 [some (.ref p0), some (.ref p1), some (.int p2), some (.int p3), some (.int (1 : Int32)), some (.int p5), some (.int p6), some (.int q7), some (.int x4)] rfl rfl rfl ?_
          exact im_less _ (by simp [lv_le]) (hj106 (1 : Int32))
      refine im_ic_ne 38 67 81 rfl (by decide) ?_ ?_
      · refine im_aload_n 44 81 rfl rfl ?_
        refine im_iload_n 45 82 rfl rfl ?_
        refine im_iload 46 83 rfl rfl ?_
        refine im_ci (S := []) (fun _ hv => cpV (fr' := 2) (lo' := 41) (i := 47) (As := [.int p2, .int q7]) (S := []) (a := p0) (c := 1) rfl lk_C_53 mw_C_stateBefore mv_C_stateBefore rfl ⟨by decide, rfl⟩ rfl rfl rfl (gd_some hv).1 (sp_C_stateBefore G hv)) (fun x8 => ?_)
        exact im_less _ (by simp [lv_le]) (hj88 x8)
      · refine im_aload_n 39 70 rfl rfl ?_
        refine im_getR 40 71 rfl fd_C_15 (by decide +kernel) (fun x9 => ?_)
        refine im_iload_n 41 74 rfl rfl ?_
        refine im_ci (S := []) (fun _ hv => cpS (fr' := 1) (lo' := 20) (i := 42) (As := [.ref x9, .int p2]) (S := []) rfl lk_C_62 mw_D_at_a mv_D_at_a rfl rfl rfl rfl (sp_D_at_a G hv)) (fun x10 => ?_)
        refine im_goto 43 78 88 rfl (by decide) ?_
        exact im_less _ (by simp [lv_le]) (hj88 x10)

set_option maxRecDepth 100000 in
set_option maxHeartbeats 4000000 in
theorem li_C_flow_35 (G : gl_T) (M0 : mm_T) (p0 : Nat) (p1 : Nat) (p2 : Int32) (p3 : Int32) : ∀ (fu : Nat) (q4 : Int32) (q5 : Int32) (N : mm_T), im_I mi_C_flow 4 89 G M0 sw_i (lf_C_flow_35 p0 p1 p2 p3 fu q4 q5 N) 35 [some (.ref p0), some (.ref p1), some (.int p2), some (.int p3), some (.int q4), some (.int q5), none, none, none] [] N := by
  intro fu
  induction fu with
  | zero => intro _ _ _; exact im_none
  | succ fu ih =>
    intro q4 q5 N
    show im_I mi_C_flow 4 89 G M0 sw_i (lb_C_flow_35 p0 p1 p2 p3 (lf_C_flow_35 p0 p1 p2 p3 fu) q4 q5 N) 35 [some (.ref p0), some (.ref p1), some (.int p2), some (.int p3), some (.int q4), some (.int q5), none, none, none] [] N
    unfold lb_C_flow_35
    refine im_iload 21 35 rfl rfl ?_
    refine im_aload_n 22 37 rfl rfl ?_
    refine im_iload_n 23 38 rfl rfl ?_
    refine im_ci (S := [.int q5]) (fun _ hv => cpV (fr' := 2) (lo' := 41) (i := 24) (As := [.int p2]) (S := [.int q5]) (a := p1) (c := 7) rfl lk_C_95 mw_P_nextCount mv_P_nextCount rfl ⟨by decide, rfl⟩ rfl rfl rfl (gd_some hv).1 (sp_P_nextCount G hv)) (fun x2 => ?_)
    refine im_ic_ge 25 42 118 rfl (by decide) ?_ ?_
    · refine im_iload 61 118 rfl rfl ?_
      exact im_endZ (fun _ => rfl) (fun hn => wp_zreturn 62 120 (ty := .boolean) rfl hn rfl)
    · refine im_aload_n 26 45 rfl rfl ?_
      refine im_iload_n 27 46 rfl rfl ?_
      refine im_iload 28 47 rfl rfl ?_
      refine im_ci (S := []) (fun _ hv => cpV (fr' := 3) (lo' := 63) (i := 29) (As := [.int p2, .int q5]) (S := []) (a := p1) (c := 7) rfl lk_C_98 mw_P_nextPoint mv_P_nextPoint rfl ⟨by decide, rfl⟩ rfl rfl rfl (gd_some hv).1 (sp_P_nextPoint G hv)) (fun x3 => ?_)
      refine im_istore 30 52 [some (.ref p0), some (.ref p1), some (.int p2), some (.int p3), some (.int q4), some (.int q5), some (.int x3), none, none] rfl rfl rfl ?_
      refine im_iconst 31 54 rfl rfl ?_
      refine im_istore 32 55 [some (.ref p0), some (.ref p1), some (.int p2), some (.int p3), some (.int q4), some (.int q5), some (.int x3), some (.int (0 : Int32)), none] rfl rfl rfl ?_
      refine im_less [some (.ref p0), some (.ref p1), some (.int p2), some (.int p3), some (.int q4), some (.int q5), some (.int x3), some (.int (0 : Int32)), none] (by simp [lv_le]) ?_
      refine li_C_flow_57 G M0 _ p0 p1 p2 p3 q5 x3 ?_ fu_L q4 (0 : Int32) N
      · intro x11 M3
        show im_I mi_C_flow 4 89 G M0 sw_i (_) 112 [some (.ref p0), some (.ref p1), some (.int p2), some (.int p3), some (.int x11), some (.int q5), none, none, none] [] M3
        refine im_iincL 59 112 (fun x12 => [some (.ref p0), some (.ref p1), some (.int p2), some (.int p3), some (.int x11), some (.int x12), none, none, none]) rfl rfl rfl rfl (fun _ => rfl) (fun x12 => ?_)
        refine im_goto 60 115 35 rfl (by decide) ?_
        exact im_less _ (by simp [lv_le]) (ih x11 x12 M3)

set_option maxRecDepth 100000 in
set_option maxHeartbeats 4000000 in
theorem ip_C_flow (G : gl_T) (t : Nat) (a1 : Nat) (a2 : Int32) (M : mm_T) : im_I mi_C_flow 4 89 G M sw_i (ff_C_flow t a1 a2 M) 0 [some (.ref t), some (.ref a1), some (.int a2), none, none, none, none, none, none] [] M := by
  unfold ff_C_flow
  refine im_gd (fun hg => ?_)
  refine im_aload_n 0 0 rfl rfl ?_
  refine im_iload_n 1 1 rfl rfl ?_
  refine im_ci (S := []) (fun _ hv => cpV (fr' := 3) (lo' := 62) (i := 2) (As := [.int a2]) (S := []) (a := a1) (c := 7) rfl lk_C_82 mw_P_definedAt mv_P_definedAt rfl ⟨by decide, rfl⟩ rfl rfl rfl (gd_some hv).1 (sp_P_definedAt G hv)) (fun x1 => ?_)
  refine im_istore_n 3 5 [some (.ref t), some (.ref a1), some (.int a2), some (.int x1), none, none, none, none, none] rfl rfl rfl ?_
  refine im_iload_n 4 6 rfl rfl ?_
  refine im_iconst 5 7 rfl rfl ?_
  refine im_jp (fun j29 => ∀  (M1 : mm_T), im_I mi_C_flow 4 89 G M sw_i (j29 M1) 29 [some (.ref t), some (.ref a1), some (.int a2), some (.int x1), none, none, none, none, none] [] M1) ?_ (fun j29 hj29 => ?_)
  · intro M1
    show im_I mi_C_flow 4 89 G M sw_i (_) 29 [some (.ref t), some (.ref a1), some (.int a2), some (.int x1), none, none, none, none, none] [] M1
    refine im_iconst 17 29 rfl rfl ?_
    refine im_istore 18 30 [some (.ref t), some (.ref a1), some (.int a2), some (.int x1), some (.int (0 : Int32)), none, none, none, none] rfl rfl rfl ?_
    refine im_iconst 19 32 rfl rfl ?_
    refine im_istore 20 33 [some (.ref t), some (.ref a1), some (.int a2), some (.int x1), some (.int (0 : Int32)), some (.int (0 : Int32)), none, none, none] rfl rfl rfl ?_
    refine im_less [some (.ref t), some (.ref a1), some (.int a2), some (.int x1), some (.int (0 : Int32)), some (.int (0 : Int32)), none, none, none] (by simp [lv_le]) ?_
    exact li_C_flow_35 G M t a1 a2 x1 fu_L (0 : Int32) (0 : Int32) M1
  refine im_ic_eq 6 8 29 rfl (by decide) ?_ ?_
  · exact im_less _ (by simp [lv_le]) (hj29 M)
  · refine im_aload_n 7 11 rfl rfl ?_
    refine im_getR 8 12 rfl fd_C_15 (by decide +kernel) (fun x13 => ?_)
    refine im_iload_n 9 15 rfl rfl ?_
    refine im_aload_n 10 16 rfl rfl ?_
    refine im_iload_n 11 17 rfl rfl ?_
    refine im_aload_n 12 18 rfl rfl ?_
    refine im_iload_n 13 19 rfl rfl ?_
    refine im_ci (S := [.int a2, .ref t, .int a2, .ref x13]) (fun _ hv => cpV (fr' := 2) (lo' := 41) (i := 14) (As := [.int a2]) (S := [.int a2, .ref t, .int a2, .ref x13]) (a := a1) (c := 7) rfl lk_C_85 mw_P_word mv_P_word rfl ⟨by decide, rfl⟩ rfl rfl rfl (gd_some hv).1 (sp_P_word G hv)) (fun x14 => ?_)
    refine im_ci (S := [.int a2, .ref x13]) (fun _ hv => cpV (fr' := 3) (lo' := 64) (i := 15) (As := [.int a2, .int x14]) (S := [.int a2, .ref x13]) (a := t) (c := 1) rfl lk_C_88 mw_C_stateOfResult mv_C_stateOfResult rfl ⟨by decide, rfl⟩ rfl rfl rfl (gd_some hv).1 (sp_C_stateOfResult G hv)) (fun x15 => ?_)
    refine im_cWv (S := []) (fun _ hv => cpS (fr' := 1) (lo' := 20) (i := 16) (As := [.ref x13, .int a2, .int x15]) (S := []) rfl lk_C_91 mw_D_put_a mv_D_put_a rfl rfl rfl rfl (sp_D_put_a G hv)) (fun M4 => ?_)
    exact im_less _ (by simp [lv_le]) (hj29 M4)

theorem sp_C_flow (G : gl_T) {t : Nat} {a1 : Nat} {a2 : Int32} {M : mm_T} {y : Int32 × mm_T} (h : ff_C_flow t a1 a2 M = some y) : sp_S mi_C_flow 4 89 G [.ref t, .ref a1, .int a2] M (sw_i y).1 (sw_i y).2 := sp_of mo_C_flow mw_C_flow (Or.inl (by decide +kernel)) rfl rfl (Or.inl rfl) (ip_C_flow G t a1 a2 M y h)

set_option maxRecDepth 100000 in
set_option maxHeartbeats 4000000 in
theorem li_C_analyse_20 (G : gl_T) (M0 : mm_T) (k0 : mm_T → Option (mm_T)) (p0 : Nat) (p1 : Nat) (p2 : Nat) (hk0 : ∀ (N : mm_T), im_I mi_C_analyse 5 117 G M0 sw_v (k0 N) 44 [some (.ref p0), some (.ref p1), some (.ref p2), none, none, none] [] N) : ∀ (fu : Nat) (q3 : Int32) (N : mm_T), im_I mi_C_analyse 5 117 G M0 sw_v (lf_C_analyse_20 k0 p0 p1 p2 fu q3 N) 20 [some (.ref p0), some (.ref p1), some (.ref p2), some (.int q3), none, none] [] N := by
  intro fu
  induction fu with
  | zero => intro _ _; exact im_none
  | succ fu ih =>
    intro q3 N
    show im_I mi_C_analyse 5 117 G M0 sw_v (lb_C_analyse_20 k0 p0 p1 p2 (lf_C_analyse_20 k0 p0 p1 p2 fu) q3 N) 20 [some (.ref p0), some (.ref p1), some (.ref p2), some (.int q3), none, none] [] N
    unfold lb_C_analyse_20
    refine im_iload_n 10 20 rfl rfl ?_
    refine im_bipush 11 21 rfl rfl ?_
    refine im_ic_ge 12 23 44 rfl (by decide) ?_ ?_
    · exact im_less _ (by simp [lv_le]) (hk0 N)
    · refine im_aload_n 13 26 rfl rfl ?_
      refine im_aload_n 14 27 rfl rfl ?_
      refine im_iconst 15 28 rfl rfl ?_
      refine im_ci (S := [.ref p0]) (fun _ hv => cpV (fr' := 2) (lo' := 41) (i := 16) (As := [.int (0 : Int32)]) (S := [.ref p0]) (a := p1) (c := 7) rfl lk_C_22 mw_P_firstPoint mv_P_firstPoint rfl ⟨by decide, rfl⟩ rfl rfl rfl (gd_some hv).1 (sp_P_firstPoint G hv)) (fun x3 => ?_)
      refine im_iload_n 17 32 rfl rfl ?_
      refine im_iconst 18 33 rfl rfl ?_
      refine im_cWi (S := []) (fun _ _ hv => cpV (fr' := 3) (lo' := 63) (i := 19) (As := [.int x3, .int q3, .int (0 : Int32)]) (S := []) (a := p0) (c := 1) rfl lk_C_28 mw_C_meet mv_C_meet rfl ⟨by decide, rfl⟩ rfl rfl rfl (gd_some hv).1 (sp_C_meet G hv)) (fun x4 M3 => ?_)
      refine im_pop 20 37 rfl rfl ?_
      refine im_iincL 21 38 (fun x5 => [some (.ref p0), some (.ref p1), some (.ref p2), some (.int x5), none, none]) rfl rfl rfl rfl (fun _ => rfl) (fun x5 => ?_)
      refine im_goto 22 41 20 rfl (by decide) ?_
      exact im_less _ (by simp [lv_le]) (ih x5 M3)

set_option maxRecDepth 100000 in
set_option maxHeartbeats 4000000 in
theorem li_C_analyse_65 (G : gl_T) (M0 : mm_T) (k0 : Int32 → mm_T → Option (mm_T)) (p0 : Nat) (p1 : Nat) (p2 : Nat) (p4 : Int32) (hk0 : ∀ (z3 : Int32) (N : mm_T), im_I mi_C_analyse 5 117 G M0 sw_v (k0 z3 N) 112 [some (.ref p0), some (.ref p1), some (.ref p2), some (.int z3), some (.int p4), none] [] N) : ∀ (fu : Nat) (q3 : Int32) (q5 : Int32) (N : mm_T), im_I mi_C_analyse 5 117 G M0 sw_v (lf_C_analyse_65 k0 p0 p1 p2 p4 fu q3 q5 N) 65 [some (.ref p0), some (.ref p1), some (.ref p2), some (.int q3), some (.int p4), some (.int q5)] [] N := by
  intro fu
  induction fu with
  | zero => intro _ _ _; exact im_none
  | succ fu ih =>
    intro q3 q5 N
    show im_I mi_C_analyse 5 117 G M0 sw_v (lb_C_analyse_65 k0 p0 p1 p2 p4 (lf_C_analyse_65 k0 p0 p1 p2 p4 fu) q3 q5 N) 65 [some (.ref p0), some (.ref p1), some (.ref p2), some (.int q3), some (.int p4), some (.int q5)] [] N
    unfold lb_C_analyse_65
    refine im_iload 36 65 rfl rfl ?_
    refine im_bipush 37 67 rfl rfl ?_
    refine im_ic_ge 38 69 112 rfl (by decide) ?_ ?_
    · exact im_less _ (by simp [lv_le]) (hk0 q3 N)
    · refine im_aload_n 39 72 rfl rfl ?_
      refine im_iload 40 73 rfl rfl ?_
      refine im_ci (S := []) (fun _ hv => cpV (fr' := 1) (lo' := 20) (i := 41) (As := [.int q5]) (S := []) (a := p1) (c := 7) rfl lk_C_33 mw_P_hasPoint mv_P_hasPoint rfl ⟨by decide, rfl⟩ rfl rfl rfl (gd_some hv).1 (sp_P_hasPoint G hv)) (fun x6 => ?_)
      refine im_jp (fun j106 => ∀ (x7 : Int32) (M5 : mm_T), im_I mi_C_analyse 5 117 G M0 sw_v (j106 x7 M5) 106 [some (.ref p0), some (.ref p1), some (.ref p2), some (.int x7), some (.int p4), some (.int q5)] [] M5) ?_ (fun j106 hj106 => ?_)
      · intro x7 M5
        show im_I mi_C_analyse 5 117 G M0 sw_v (_) 106 [some (.ref p0), some (.ref p1), some (.ref p2), some (.int x7), some (.int p4), some (.int q5)] [] M5
        refine im_iincL 56 106 (fun x8 => [some (.ref p0), some (.ref p1), some (.ref p2), some (.int x7), some (.int p4), some (.int x8)]) rfl rfl rfl rfl (fun _ => rfl) (fun x8 => ?_)
        refine im_goto 57 109 65 rfl (by decide) ?_
        exact im_less _ (by simp [lv_le]) (ih x7 x8 M5)
      refine im_if_eq 42 78 106 rfl (by decide) ?_ ?_
      · exact im_less _ (by simp [lv_le]) (hj106 q3 N)
      · refine im_aload_n 43 81 rfl rfl ?_
        refine im_aload_n 44 82 rfl rfl ?_
        refine im_iload 45 83 rfl rfl ?_
        refine im_ci (S := [.ref p2]) (fun _ hv => cpV (fr' := 2) (lo' := 41) (i := 46) (As := [.int q5]) (S := [.ref p2]) (a := p1) (c := 7) rfl lk_C_37 mw_P_blockAt mv_P_blockAt rfl ⟨by decide, rfl⟩ rfl rfl rfl (gd_some hv).1 (sp_P_blockAt G hv)) (fun x9 => ?_)
        refine im_ci (S := []) (fun _ hv => cpV (fr' := 2) (lo' := 42) (i := 47) (As := [.int x9]) (S := []) (a := p2) (c := 2) rfl lk_C_40 mw_G_isReached mv_G_isReached rfl ⟨by decide, rfl⟩ rfl rfl rfl (gd_some hv).1 (sp_G_isReached G hv)) (fun x10 => ?_)
        refine im_if_eq 48 91 106 rfl (by decide) ?_ ?_
        · exact im_less _ (by simp [lv_le]) (hj106 q3 N)
        · refine im_aload_n 49 94 rfl rfl ?_
          refine im_aload_n 50 95 rfl rfl ?_
          refine im_iload 51 96 rfl rfl ?_
          refine im_cWi (S := []) (fun _ _ hv => cpV (fr' := 4) (lo' := 89) (i := 52) (As := [.ref p1, .int q5]) (S := []) (a := p0) (c := 1) rfl lk_C_45 mw_C_flow mv_C_flow rfl ⟨by decide, rfl⟩ rfl rfl rfl (gd_some hv).1 (sp_C_flow G hv)) (fun x11 M6 => ?_)
          refine im_if_eq 53 101 106 rfl (by decide) ?_ ?_
          · exact im_less _ (by simp [lv_le]) (hj106 q3 M6)
          · refine im_iconst 54 104 rfl rfl ?_
            refine im_istore_n 55 105 [some (.ref p0), some (.ref p1), some (.ref p2), some (.int (1 : Int32)), some (.int p4), some (.int q5)] rfl rfl rfl ?_
            exact im_less _ (by simp [lv_le]) (hj106 (1 : Int32) M6)

set_option maxRecDepth 100000 in
set_option maxHeartbeats 4000000 in
theorem li_C_analyse_49 (G : gl_T) (M0 : mm_T) (k0 : mm_T → Option (mm_T)) (p0 : Nat) (p1 : Nat) (p2 : Nat) (hk0 : ∀ (N : mm_T), im_I mi_C_analyse 5 117 G M0 sw_v (k0 N) 118 [some (.ref p0), none, none, none, none, none] [] N) : ∀ (fu : Nat) (q3 : Int32) (q4 : Int32) (N : mm_T), im_I mi_C_analyse 5 117 G M0 sw_v (lf_C_analyse_49 k0 p0 p1 p2 fu q3 q4 N) 49 [some (.ref p0), some (.ref p1), some (.ref p2), some (.int q3), some (.int q4), none] [] N := by
  intro fu
  induction fu with
  | zero => intro _ _ _; exact im_none
  | succ fu ih =>
    intro q3 q4 N
    show im_I mi_C_analyse 5 117 G M0 sw_v (lb_C_analyse_49 k0 p0 p1 p2 (lf_C_analyse_49 k0 p0 p1 p2 fu) q3 q4 N) 49 [some (.ref p0), some (.ref p1), some (.ref p2), some (.int q3), some (.int q4), none] [] N
    unfold lb_C_analyse_49
    refine im_iload_n 27 49 rfl rfl ?_
    refine im_if_eq 28 50 118 rfl (by decide) ?_ ?_
    · exact im_less _ (by simp [lv_le]) (hk0 N)
    · refine im_iload 29 53 rfl rfl ?_
      refine im_ldcI 30 55 (v := (100000 : Int32)) rfl (tb_m 942 (by decide +kernel) rfl) ?_
      refine im_ic_ge 31 57 118 rfl (by decide) ?_ ?_
      · exact im_less _ (by simp [lv_le]) (hk0 N)
      · refine im_iconst 32 60 rfl rfl ?_
        refine im_istore_n 33 61 [some (.ref p0), some (.ref p1), some (.ref p2), some (.int (0 : Int32)), some (.int q4), none] rfl rfl rfl ?_
        refine im_iconst 34 62 rfl rfl ?_
        refine im_istore 35 63 [some (.ref p0), some (.ref p1), some (.ref p2), some (.int (0 : Int32)), some (.int q4), some (.int (0 : Int32))] rfl rfl rfl ?_
        refine im_less [some (.ref p0), some (.ref p1), some (.ref p2), some (.int (0 : Int32)), some (.int q4), some (.int (0 : Int32))] (by simp [lv_le]) ?_
        refine li_C_analyse_65 G M0 _ p0 p1 p2 q4 ?_ fu_L (0 : Int32) (0 : Int32) N
        · intro x12 M7
          show im_I mi_C_analyse 5 117 G M0 sw_v (_) 112 [some (.ref p0), some (.ref p1), some (.ref p2), some (.int x12), some (.int q4), none] [] M7
          refine im_iincL 58 112 (fun x13 => [some (.ref p0), some (.ref p1), some (.ref p2), some (.int x12), some (.int x13), none]) rfl rfl rfl rfl (fun _ => rfl) (fun x13 => ?_)
          refine im_goto 59 115 49 rfl (by decide) ?_
          exact im_less _ (by simp [lv_le]) (ih x12 x13 M7)

set_option maxRecDepth 100000 in
set_option maxHeartbeats 4000000 in
theorem ip_C_analyse (G : gl_T) (t : Nat) (a1 : Nat) (a2 : Nat) (M : mm_T) : im_I mi_C_analyse 5 117 G M sw_v (ff_C_analyse t a1 a2 M) 0 [some (.ref t), some (.ref a1), some (.ref a2), none, none, none] [] M := by
  unfold ff_C_analyse
  refine im_gd (fun hg => ?_)
  refine im_aload_n 0 0 rfl rfl ?_
  refine im_getR 1 1 rfl fd_C_9 (by decide +kernel) (fun x1 => ?_)
  refine im_bipush 2 4 rfl rfl ?_
  refine im_cWv (S := []) (fun _ hv => cpS (fr' := 1) (lo' := 20) (i := 3) (As := [.ref x1, .int (-2 : Int32)]) (S := []) rfl lk_C_18 mw_D_fill_a mv_D_fill_a rfl rfl rfl rfl (sp_D_fill_a G hv)) (fun M1 => ?_)
  refine im_aload_n 4 9 rfl rfl ?_
  refine im_getR 5 10 rfl fd_C_15 (by decide +kernel) (fun x2 => ?_)
  refine im_bipush 6 13 rfl rfl ?_
  refine im_cWv (S := []) (fun _ hv => cpS (fr' := 1) (lo' := 20) (i := 7) (As := [.ref x2, .int (-2 : Int32)]) (S := []) rfl lk_C_18 mw_D_fill_a mv_D_fill_a rfl rfl rfl rfl (sp_D_fill_a G hv)) (fun M2 => ?_)
  refine im_iconst 8 18 rfl rfl ?_
  refine im_istore_n 9 19 [some (.ref t), some (.ref a1), some (.ref a2), some (.int (0 : Int32)), none, none] rfl rfl rfl ?_
  refine im_less [some (.ref t), some (.ref a1), some (.ref a2), some (.int (0 : Int32)), none, none] (by simp [lv_le]) ?_
  refine li_C_analyse_20 G M _ t a1 a2 ?_ fu_L (0 : Int32) M2
  · intro M4
    show im_I mi_C_analyse 5 117 G M sw_v (_) 44 [some (.ref t), some (.ref a1), some (.ref a2), none, none, none] [] M4
    refine im_iconst 23 44 rfl rfl ?_
    refine im_istore_n 24 45 [some (.ref t), some (.ref a1), some (.ref a2), some (.int (1 : Int32)), none, none] rfl rfl rfl ?_
    refine im_iconst 25 46 rfl rfl ?_
    refine im_istore 26 47 [some (.ref t), some (.ref a1), some (.ref a2), some (.int (1 : Int32)), some (.int (0 : Int32)), none] rfl rfl rfl ?_
    refine im_less [some (.ref t), some (.ref a1), some (.ref a2), some (.int (1 : Int32)), some (.int (0 : Int32)), none] (by simp [lv_le]) ?_
    refine li_C_analyse_49 G M _ t a1 a2 ?_ fu_L (1 : Int32) (0 : Int32) M4
    · intro M8
      show im_I mi_C_analyse 5 117 G M sw_v (_) 118 [some (.ref t), none, none, none, none, none] [] M8
      refine im_aload_n 60 118 rfl rfl ?_
      refine im_iconst 61 119 rfl rfl ?_
      refine im_putZ 62 120 rfl fd_C_49 (Or.inl (by decide +kernel)) (by decide +kernel) (fun M9 => ?_)
      exact im_end rfl (wp_return 63 123 rfl rfl)

theorem sp_C_analyse (G : gl_T) {t : Nat} {a1 : Nat} {a2 : Nat} {M : mm_T} {y : mm_T} (h : ff_C_analyse t a1 a2 M = some y) : sp_S mi_C_analyse 5 117 G [.ref t, .ref a1, .ref a2] M (sw_v y).1 (sw_v y).2 := sp_of mo_C_analyse mw_C_analyse (Or.inl (by decide +kernel)) rfl rfl (Or.inl rfl) (ip_C_analyse G t a1 a2 M y h)

set_option maxRecDepth 100000 in
set_option maxHeartbeats 4000000 in
theorem ip_D_constants (G : gl_T) (t : Nat) (M : mm_T) : im_I mi_D_constants 6 142 G M sw_r (ff_D_constants t M) 0 [some (.ref t)] [] M := by
  unfold ff_D_constants
  refine im_gd (fun hg => ?_)
  refine im_aload_n 0 0 rfl rfl ?_
  refine im_getR 1 1 rfl fd_D_72 (by decide +kernel) (fun x1 => ?_)
  refine im_getI 2 4 rfl fd_D_477 (by decide +kernel) (fun x2 => ?_)
  refine im_jp (fun j25 => ∀  (M1 : mm_T), im_I mi_D_constants 6 142 G M sw_r (j25 M1) 25 [some (.ref t)] [] M1) ?_ (fun j25 hj25 => ?_)
  · intro M1
    show im_I mi_D_constants 6 142 G M sw_r (_) 25 [some (.ref t)] [] M1
    refine im_aload_n 11 25 rfl rfl ?_
    refine im_getR 12 26 rfl fd_D_72 (by decide +kernel) (fun x3 => ?_)
    exact im_end rfl (wp_areturn 13 29 rfl (Or.inl ⟨_, rfl⟩) rfl)
  refine im_if_ne 3 7 25 rfl (by decide) ?_ ?_
  · exact im_less _ (by simp [lv_le]) (hj25 M)
  · refine im_aload_n 4 10 rfl rfl ?_
    refine im_getR 5 11 rfl fd_D_72 (by decide +kernel) (fun x4 => ?_)
    refine im_aload_n 6 14 rfl rfl ?_
    refine im_getR 7 15 rfl fd_D_87 (by decide +kernel) (fun x5 => ?_)
    refine im_aload_n 8 18 rfl rfl ?_
    refine im_cWr (S := [.ref x5, .ref x4]) (fun _ _ hv => cpV (fr' := 5) (lo' := 112) (i := 9) (As := []) (S := [.ref x5, .ref x4]) (a := t) (c := 10) rfl lk_D_165 mw_D_graph mv_D_graph rfl ⟨by decide, rfl⟩ rfl rfl rfl (gd_some hv).1 (sp_D_graph G hv)) (fun x6 M2 => ?_)
    refine im_cWv (S := []) (fun _ hv => cpV (fr' := 5) (lo' := 117) (i := 10) (As := [.ref x5, .ref x6]) (S := []) (a := x4) (c := 1) rfl lk_D_486 mw_C_analyse mv_C_analyse rfl ⟨by decide, rfl⟩ rfl rfl rfl (gd_some hv).1 (sp_C_analyse G hv)) (fun M3 => ?_)
    exact im_less _ (by simp [lv_le]) (hj25 M3)

theorem sp_D_constants (G : gl_T) {t : Nat} {M : mm_T} {y : Nat × mm_T} (h : ff_D_constants t M = some y) : sp_S mi_D_constants 6 142 G [.ref t] M (sw_r y).1 (sw_r y).2 := sp_of mo_D_constants mw_D_constants (Or.inl (by decide +kernel)) rfl rfl (Or.inl rfl) (ip_D_constants G t M y h)

set_option maxRecDepth 100000 in
set_option maxHeartbeats 4000000 in
theorem ip_C_constantBefore (G : gl_T) (t : Nat) (a1 : Int32) (a2 : Int32) (M : mm_T) : im_I mi_C_constantBefore 3 63 G M (sh_i M) (ff_C_constantBefore t a1 a2 M) 0 [some (.ref t), some (.int a1), some (.int a2)] [] M := by
  unfold ff_C_constantBefore
  refine im_gd (fun hg => ?_)
  refine im_aload_n 0 0 rfl rfl ?_
  refine im_iload_n 1 1 rfl rfl ?_
  refine im_iload_n 2 2 rfl rfl ?_
  refine im_ci (S := []) (fun _ hv => cpV (fr' := 2) (lo' := 41) (i := 3) (As := [.int a1, .int a2]) (S := []) (a := t) (c := 1) rfl lk_C_53 mw_C_stateBefore mv_C_stateBefore rfl ⟨by decide, rfl⟩ rfl rfl rfl (gd_some hv).1 (sp_C_stateBefore G hv)) (fun x1 => ?_)
  refine im_iconst 4 6 rfl rfl ?_
  refine im_ci (S := []) (fun _ hv => cpS (fr' := 1) (lo' := 20) (i := 5) (As := [.int x1, .int (-1 : Int32)]) (S := []) rfl lk_C_57 mw_JM_max mv_JM_max rfl rfl rfl rfl (sp_JM_max G hv)) (fun x2 => ?_)
  exact im_end rfl (wp_ireturn 6 10 rfl rfl)

theorem sp_C_constantBefore (G : gl_T) {t : Nat} {a1 : Int32} {a2 : Int32} {M : mm_T} {y : Int32} (h : ff_C_constantBefore t a1 a2 M = some y) : sp_S mi_C_constantBefore 3 63 G [.ref t, .int a1, .int a2] M ((sh_i M) y).1 ((sh_i M) y).2 := sp_of mo_C_constantBefore mw_C_constantBefore (Or.inl (by decide +kernel)) rfl rfl (Or.inl rfl) (ip_C_constantBefore G t a1 a2 M y h)

set_option maxRecDepth 100000 in
set_option maxHeartbeats 4000000 in
theorem ip_D_constantAt (G : gl_T) (t : Nat) (a1 : Int32) (a2 : Int32) (M : mm_T) : im_I mi_D_constantAt 7 162 G M sX_i (ff_D_constantAt t a1 a2 M) 0 [some (.ref t), some (.int a1), some (.int a2)] [] M := by
  unfold ff_D_constantAt
  refine im_gd (fun hg => ?_)
  refine im_aload_n 0 0 rfl rfl ?_
  refine im_iload_n 1 1 rfl rfl ?_
  refine im_rq (S := []) (fun hv => cpV (fr' := 6) (lo' := 90) (i := 2) (As := [.int a1]) (S := []) (a := t) (c := 10) rfl lk_D_137 mw_D_requireBlock mv_D_requireBlock rfl ⟨by decide, rfl⟩ rfl rfl rfl (gd_some hv).1 (sp_D_requireBlock G hv)) (fun _ hv => xpV (fr' := 6) (lo' := 90) (i := 2) (As := [.int a1]) (S := []) (a := t) (c := 10) rfl lm_D_137 mw_D_requireBlock mv_D_requireBlock rfl ⟨by decide, rfl⟩ rfl rfl rfl (gd_some hv).1 (sp_D_requireBlock G hv) (tw_out rfl)) (fun _ => rfl) ?_
  refine im_iload_n 3 5 rfl rfl ?_
  refine im_rq (S := []) (fun hv => cpS (fr' := 6) (lo' := 90) (i := 4) (As := [.int a2]) (S := []) rfl lk_D_199 mw_D_requireVariable mv_D_requireVariable rfl rfl rfl rfl (sp_D_requireVariable G hv)) (fun _ hv => xpS (fr' := 6) (lo' := 90) (i := 4) (As := [.int a2]) (S := []) rfl lm_D_199 mw_D_requireVariable mv_D_requireVariable rfl rfl rfl rfl (sp_D_requireVariable G hv) (tw_out rfl)) (fun _ => rfl) ?_
  refine im_aload_n 5 9 rfl rfl ?_
  refine im_cWr (S := []) (fun _ _ hv => cpV (fr' := 6) (lo' := 142) (i := 6) (As := []) (S := []) (a := t) (c := 10) rfl lk_D_284 mw_D_constants mv_D_constants rfl ⟨by decide, rfl⟩ rfl rfl rfl (gd_some hv).1 (sp_D_constants G hv)) (fun x1 M1 => ?_)
  refine im_aload_n 7 13 rfl rfl ?_
  refine im_getR 8 14 rfl fd_D_87 (by decide +kernel) (fun x2 => ?_)
  refine im_iload_n 9 17 rfl rfl ?_
  refine im_ci (S := [.ref x1]) (fun _ hv => cpV (fr' := 2) (lo' := 41) (i := 10) (As := [.int a1]) (S := [.ref x1]) (a := x2) (c := 7) rfl lk_D_188 mw_P_firstPoint mv_P_firstPoint rfl ⟨by decide, rfl⟩ rfl rfl rfl (gd_some hv).1 (sp_P_firstPoint G hv)) (fun x3 => ?_)
  refine im_iload_n 11 21 rfl rfl ?_
  refine im_ci (S := []) (fun _ hv => cpV (fr' := 3) (lo' := 63) (i := 12) (As := [.int x3, .int a2]) (S := []) (a := x1) (c := 1) rfl lk_D_288 mw_C_constantBefore mv_C_constantBefore rfl ⟨by decide, rfl⟩ rfl rfl rfl (gd_some hv).1 (sp_C_constantBefore G hv)) (fun x4 => ?_)
  exact im_end rfl (wp_ireturn 13 25 rfl rfl)

theorem sp_D_constantAt (G : gl_T) {t : Nat} {a1 : Int32} {a2 : Int32} {M : mm_T} {y : (Int32 ⊕ String) × mm_T} (h : ff_D_constantAt t a1 a2 M = some y) : sp_S mi_D_constantAt 7 162 G [.ref t, .int a1, .int a2] M (sX_i y).1 (sX_i y).2 := sp_of mo_D_constantAt mw_D_constantAt (Or.inl (by decide +kernel)) rfl rfl (Or.inl rfl) (ip_D_constantAt G t a1 a2 M y h)

set_option maxRecDepth 100000 in
set_option maxHeartbeats 4000000 in
theorem ip_C_constantGiven (G : gl_T) (t : Nat) (a1 : Int32) (M : mm_T) : im_I mi_C_constantGiven 2 41 G M (sh_i M) (ff_C_constantGiven t a1 M) 0 [some (.ref t), some (.int a1)] [] M := by
  unfold ff_C_constantGiven
  refine im_gd (fun hg => ?_)
  refine im_aload_n 0 0 rfl rfl ?_
  refine im_getR 1 1 rfl fd_C_15 (by decide +kernel) (fun x1 => ?_)
  refine im_iload_n 2 4 rfl rfl ?_
  refine im_ci (S := []) (fun _ hv => cpS (fr' := 1) (lo' := 20) (i := 3) (As := [.ref x1, .int a1]) (S := []) rfl lk_C_62 mw_D_at_a mv_D_at_a rfl rfl rfl rfl (sp_D_at_a G hv)) (fun x2 => ?_)
  refine im_iconst 4 8 rfl rfl ?_
  refine im_ci (S := []) (fun _ hv => cpS (fr' := 1) (lo' := 20) (i := 5) (As := [.int x2, .int (-1 : Int32)]) (S := []) rfl lk_C_57 mw_JM_max mv_JM_max rfl rfl rfl rfl (sp_JM_max G hv)) (fun x3 => ?_)
  exact im_end rfl (wp_ireturn 6 12 rfl rfl)

theorem sp_C_constantGiven (G : gl_T) {t : Nat} {a1 : Int32} {M : mm_T} {y : Int32} (h : ff_C_constantGiven t a1 M = some y) : sp_S mi_C_constantGiven 2 41 G [.ref t, .int a1] M ((sh_i M) y).1 ((sh_i M) y).2 := sp_of mo_C_constantGiven mw_C_constantGiven (Or.inl (by decide +kernel)) rfl rfl (Or.inl rfl) (ip_C_constantGiven G t a1 M y h)

set_option maxRecDepth 100000 in
set_option maxHeartbeats 4000000 in
theorem ip_D_constantOf (G : gl_T) (t : Nat) (a1 : Int32) (M : mm_T) : im_I mi_D_constantOf 7 162 G M sX_i (ff_D_constantOf t a1 M) 0 [some (.ref t), some (.int a1)] [] M := by
  unfold ff_D_constantOf
  refine im_gd (fun hg => ?_)
  refine im_aload_n 0 0 rfl rfl ?_
  refine im_iload_n 1 1 rfl rfl ?_
  refine im_rq (S := []) (fun hv => cpV (fr' := 6) (lo' := 90) (i := 2) (As := [.int a1]) (S := []) (a := t) (c := 10) rfl lk_D_144 mw_D_requireInstruction mv_D_requireInstruction rfl ⟨by decide, rfl⟩ rfl rfl rfl (gd_some hv).1 (sp_D_requireInstruction G hv)) (fun _ hv => xpV (fr' := 6) (lo' := 90) (i := 2) (As := [.int a1]) (S := []) (a := t) (c := 10) rfl lm_D_144 mw_D_requireInstruction mv_D_requireInstruction rfl ⟨by decide, rfl⟩ rfl rfl rfl (gd_some hv).1 (sp_D_requireInstruction G hv) (tw_out rfl)) (fun _ => rfl) ?_
  refine im_aload_n 3 5 rfl rfl ?_
  refine im_cWr (S := []) (fun _ _ hv => cpV (fr' := 6) (lo' := 142) (i := 4) (As := []) (S := []) (a := t) (c := 10) rfl lk_D_284 mw_D_constants mv_D_constants rfl ⟨by decide, rfl⟩ rfl rfl rfl (gd_some hv).1 (sp_D_constants G hv)) (fun x1 M1 => ?_)
  refine im_iload_n 5 9 rfl rfl ?_
  refine im_ci (S := []) (fun _ hv => cpV (fr' := 2) (lo' := 41) (i := 6) (As := [.int a1]) (S := []) (a := x1) (c := 1) rfl lk_D_291 mw_C_constantGiven mv_C_constantGiven rfl ⟨by decide, rfl⟩ rfl rfl rfl (gd_some hv).1 (sp_C_constantGiven G hv)) (fun x2 => ?_)
  exact im_end rfl (wp_ireturn 7 13 rfl rfl)

theorem sp_D_constantOf (G : gl_T) {t : Nat} {a1 : Int32} {M : mm_T} {y : (Int32 ⊕ String) × mm_T} (h : ff_D_constantOf t a1 M = some y) : sp_S mi_D_constantOf 7 162 G [.ref t, .int a1] M (sX_i y).1 (sX_i y).2 := sp_of mo_D_constantOf mw_D_constantOf (Or.inl (by decide +kernel)) rfl rfl (Or.inl rfl) (ip_D_constantOf G t a1 M y h)

set_option maxRecDepth 100000 in
set_option maxHeartbeats 4000000 in
theorem ip_P_testedBy (G : gl_T) (t : Nat) (a1 : Int32) (M : mm_T) : im_I mi_P_testedBy 2 41 G M (sh_i M) (ff_P_testedBy t a1 M) 0 [some (.ref t), some (.int a1)] [] M := by
  unfold ff_P_testedBy
  refine im_gd (fun hg => ?_)
  refine im_aload_n 0 0 rfl rfl ?_
  refine im_getR 1 1 rfl fd_P_21 (by decide +kernel) (fun x1 => ?_)
  refine im_iload_n 2 4 rfl rfl ?_
  refine im_ci (S := []) (fun _ hv => cpS (fr' := 1) (lo' := 20) (i := 3) (As := [.ref x1, .int a1]) (S := []) rfl lk_P_41 mw_D_at_a mv_D_at_a rfl rfl rfl rfl (sp_D_at_a G hv)) (fun x2 => ?_)
  exact im_end rfl (wp_ireturn 4 8 rfl rfl)

theorem sp_P_testedBy (G : gl_T) {t : Nat} {a1 : Int32} {M : mm_T} {y : Int32} (h : ff_P_testedBy t a1 M = some y) : sp_S mi_P_testedBy 2 41 G [.ref t, .int a1] M ((sh_i M) y).1 ((sh_i M) y).2 := sp_of mo_P_testedBy mw_P_testedBy (Or.inl (by decide +kernel)) rfl rfl (Or.inl rfl) (ip_P_testedBy G t a1 M y h)

set_option maxRecDepth 100000 in
set_option maxHeartbeats 4000000 in
theorem li_C_countDecided_4 (G : gl_T) (p0 : Nat) (p1 : Nat) (M : mm_T) : ∀ (fu : Nat) (q2 : Int32) (q3 : Int32), im_I mi_C_countDecided 4 85 G M (sh_i M) (lf_C_countDecided_4 p0 p1 M fu q2 q3) 4 [some (.ref p0), some (.ref p1), some (.int q2), some (.int q3), none] [] M := by
  intro fu
  induction fu with
  | zero => intro _ _; exact im_none
  | succ fu ih =>
    intro q2 q3
    show im_I mi_C_countDecided 4 85 G M (sh_i M) (lb_C_countDecided_4 p0 p1 M (lf_C_countDecided_4 p0 p1 M fu) q2 q3) 4 [some (.ref p0), some (.ref p1), some (.int q2), some (.int q3), none] [] M
    unfold lb_C_countDecided_4
    refine im_iload_n 4 4 rfl rfl ?_
    refine im_aload_n 5 5 rfl rfl ?_
    refine im_getI 6 6 rfl fd_C_66 (by decide +kernel) (fun x1 => ?_)
    refine im_ic_ge 7 9 60 rfl (by decide) ?_ ?_
    · refine im_iload_n 32 60 rfl rfl ?_
      exact im_end rfl (wp_ireturn 33 61 rfl rfl)
    · refine im_aload_n 8 12 rfl rfl ?_
      refine im_iload_n 9 13 rfl rfl ?_
      refine im_ci (S := []) (fun _ hv => cpV (fr' := 2) (lo' := 41) (i := 10) (As := [.int q3]) (S := []) (a := p1) (c := 7) rfl lk_C_70 mw_P_wayCount mv_P_wayCount rfl ⟨by decide, rfl⟩ rfl rfl rfl (gd_some hv).1 (sp_P_wayCount G hv)) (fun x2 => ?_)
      refine im_iconst 11 17 rfl rfl ?_
      refine im_jp (fun j26 => ∀ (x3 : Int32), im_I mi_C_countDecided 4 85 G M (sh_i M) (j26 x3) 26 [some (.ref p0), some (.ref p1), some (.int q2), some (.int q3), none] [.int x3] M) ?_ (fun j26 hj26 => ?_)
      · intro x3
        show im_I mi_C_countDecided 4 85 G M (sh_i M) (_) 26 [some (.ref p0), some (.ref p1), some (.int q2), some (.int q3), none] [.int x3] M
        refine im_istore 16 26 [some (.ref p0), some (.ref p1), some (.int q2), some (.int q3), some (.int x3)] rfl rfl rfl ?_
        refine im_iload 17 28 rfl rfl ?_
        refine im_jp (fun j54 => ∀ (x4 : Int32), im_I mi_C_countDecided 4 85 G M (sh_i M) (j54 x4) 54 [some (.ref p0), some (.ref p1), some (.int x4), some (.int q3), none] [] M) ?_ (fun j54 hj54 => ?_)
        · intro x4
          show im_I mi_C_countDecided 4 85 G M (sh_i M) (_) 54 [some (.ref p0), some (.ref p1), some (.int x4), some (.int q3), none] [] M
          refine im_iincL 30 54 (fun x5 => [some (.ref p0), some (.ref p1), some (.int x4), some (.int x5), none]) rfl rfl rfl rfl (fun _ => rfl) (fun x5 => ?_)
          refine im_goto 31 57 4 rfl (by decide) ?_
          exact im_less _ (by simp [lv_le]) (ih x4 x5)
        refine im_if_eq 18 30 54 rfl (by decide) ?_ ?_
        · exact im_less _ (by simp [lv_le]) (hj54 q2)
        · refine im_aload_n 19 33 rfl rfl ?_
          refine im_aload_n 20 34 rfl rfl ?_
          refine im_iload_n 21 35 rfl rfl ?_
          refine im_ci (S := [.ref p0]) (fun _ hv => cpV (fr' := 1) (lo' := 20) (i := 22) (As := [.int q3]) (S := [.ref p0]) (a := p1) (c := 7) rfl lk_C_73 mw_P_exitPoint mv_P_exitPoint rfl ⟨by decide, rfl⟩ rfl rfl rfl (gd_some hv).1 (sp_P_exitPoint G hv)) (fun x6 => ?_)
          refine im_aload_n 23 39 rfl rfl ?_
          refine im_iload_n 24 40 rfl rfl ?_
          refine im_ci (S := [.int x6, .ref p0]) (fun _ hv => cpV (fr' := 2) (lo' := 41) (i := 25) (As := [.int q3]) (S := [.int x6, .ref p0]) (a := p1) (c := 7) rfl lk_C_76 mw_P_testedBy mv_P_testedBy rfl ⟨by decide, rfl⟩ rfl rfl rfl (gd_some hv).1 (sp_P_testedBy G hv)) (fun x7 => ?_)
          refine im_ci (S := []) (fun _ hv => cpV (fr' := 3) (lo' := 63) (i := 26) (As := [.int x6, .int x7]) (S := []) (a := p0) (c := 1) rfl lk_C_79 mw_C_constantBefore mv_C_constantBefore rfl ⟨by decide, rfl⟩ rfl rfl rfl (gd_some hv).1 (sp_C_constantBefore G hv)) (fun x8 => ?_)
          refine im_iconst 27 47 rfl rfl ?_
          refine im_ic_eq 28 48 54 rfl (by decide) ?_ ?_
          · exact im_less _ (by simp [lv_le]) (hj54 q2)
          · refine im_iincL 29 51 (fun x9 => [some (.ref p0), some (.ref p1), some (.int x9), some (.int q3), some (.int x3)]) rfl rfl rfl rfl (fun _ => rfl) (fun x9 => ?_)
            exact im_less _ (by simp [lv_le]) (hj54 x9)
      refine im_ic_ne 12 18 25 rfl (by decide) ?_ ?_
      · refine im_iconst 15 25 rfl rfl ?_
        exact im_less _ (by simp [lv_le]) (hj26 (0 : Int32))
      · refine im_iconst 13 21 rfl rfl ?_
        refine im_goto 14 22 26 rfl (by decide) ?_
        exact im_less _ (by simp [lv_le]) (hj26 (1 : Int32))

set_option maxRecDepth 100000 in
set_option maxHeartbeats 4000000 in
theorem ip_C_countDecided (G : gl_T) (t : Nat) (a1 : Nat) (M : mm_T) : im_I mi_C_countDecided 4 85 G M (sh_i M) (ff_C_countDecided t a1 M) 0 [some (.ref t), some (.ref a1), none, none, none] [] M := by
  unfold ff_C_countDecided
  refine im_gd (fun hg => ?_)
  refine im_iconst 0 0 rfl rfl ?_
  refine im_istore_n 1 1 [some (.ref t), some (.ref a1), some (.int (0 : Int32)), none, none] rfl rfl rfl ?_
  refine im_iconst 2 2 rfl rfl ?_
  refine im_istore_n 3 3 [some (.ref t), some (.ref a1), some (.int (0 : Int32)), some (.int (0 : Int32)), none] rfl rfl rfl ?_
  refine im_less [some (.ref t), some (.ref a1), some (.int (0 : Int32)), some (.int (0 : Int32)), none] (by simp [lv_le]) ?_
  exact li_C_countDecided_4 G t a1 M fu_L (0 : Int32) (0 : Int32)

theorem sp_C_countDecided (G : gl_T) {t : Nat} {a1 : Nat} {M : mm_T} {y : Int32} (h : ff_C_countDecided t a1 M = some y) : sp_S mi_C_countDecided 4 85 G [.ref t, .ref a1] M ((sh_i M) y).1 ((sh_i M) y).2 := sp_of mo_C_countDecided mw_C_countDecided (Or.inl (by decide +kernel)) rfl rfl (Or.inl rfl) (ip_C_countDecided G t a1 M y h)

set_option maxRecDepth 100000 in
set_option maxHeartbeats 4000000 in
theorem ip_D_decidedBranches (G : gl_T) (t : Nat) (M : mm_T) : im_I mi_D_decidedBranches 7 162 G M sw_i (ff_D_decidedBranches t M) 0 [some (.ref t)] [] M := by
  unfold ff_D_decidedBranches
  refine im_gd (fun hg => ?_)
  refine im_aload_n 0 0 rfl rfl ?_
  refine im_cWr (S := []) (fun _ _ hv => cpV (fr' := 6) (lo' := 142) (i := 1) (As := []) (S := []) (a := t) (c := 10) rfl lk_D_284 mw_D_constants mv_D_constants rfl ⟨by decide, rfl⟩ rfl rfl rfl (gd_some hv).1 (sp_D_constants G hv)) (fun x1 M1 => ?_)
  refine im_aload_n 2 4 rfl rfl ?_
  refine im_getR 3 5 rfl fd_D_87 (by decide +kernel) (fun x2 => ?_)
  refine im_ci (S := []) (fun _ hv => cpV (fr' := 4) (lo' := 85) (i := 4) (As := [.ref x2]) (S := []) (a := x1) (c := 1) rfl lk_D_294 mw_C_countDecided mv_C_countDecided rfl ⟨by decide, rfl⟩ rfl rfl rfl (gd_some hv).1 (sp_C_countDecided G hv)) (fun x3 => ?_)
  exact im_end rfl (wp_ireturn 5 11 rfl rfl)

theorem sp_D_decidedBranches (G : gl_T) {t : Nat} {M : mm_T} {y : Int32 × mm_T} (h : ff_D_decidedBranches t M = some y) : sp_S mi_D_decidedBranches 7 162 G [.ref t] M (sw_i y).1 (sw_i y).2 := sp_of mo_D_decidedBranches mw_D_decidedBranches (Or.inl (by decide +kernel)) rfl rfl (Or.inl rfl) (ip_D_decidedBranches G t M y h)

set_option maxRecDepth 100000 in
set_option maxHeartbeats 4000000 in
theorem ip_D_requireLimit (G : gl_T) (a1 : Int32) (M : mm_T) : im_I mi_D_requireLimit 6 90 G M (sx_v M) (ff_D_requireLimit a1 M) 0 [some (.int a1)] [] M := by
  unfold ff_D_requireLimit
  refine im_iload_n 0 0 rfl rfl ?_
  refine im_iconst 1 1 rfl rfl ?_
  refine im_jp (fun j12 => im_I mi_D_requireLimit 6 90 G M (sx_v M) (j12) 12 [none] [] M) ?_ (fun j12 hj12 => ?_)
  · show im_I mi_D_requireLimit 6 90 G M (sx_v M) (_) 12 [none] [] M
    exact im_endX rfl (wp_throwW (i := 6) th_D_105_457_109 rfl rfl rfl rfl rfl rfl rfl rfl rfl rfl)
  refine im_ic_lt 2 2 12 rfl (by decide) ?_ ?_
  · exact im_less _ (by simp [lv_le]) (hj12)
  · refine im_iload_n 3 5 rfl rfl ?_
    refine im_sipush 4 6 rfl rfl ?_
    refine im_ic_le 5 9 23 rfl (by decide) ?_ ?_
    · exact im_end rfl (wp_return 11 23 rfl rfl)
    · exact im_less _ (by simp [lv_le]) (hj12)

theorem sp_D_requireLimit (G : gl_T) {a1 : Int32} {M : mm_T} {y : Option String} (h : ff_D_requireLimit a1 M = some y) : sp_S mi_D_requireLimit 6 90 G [.int a1] M ((sx_v M) y).1 ((sx_v M) y).2 := sp_of mo_D_requireLimit mw_D_requireLimit (Or.inl (by decide +kernel)) rfl rfl (Or.inl rfl) (ip_D_requireLimit G a1 M y h)

set_option maxRecDepth 100000 in
set_option maxHeartbeats 4000000 in
theorem ip_N_start (G : gl_T) (t : Nat) (a1 : Nat) (M : mm_T) : im_I mi_N_start 3 63 G M sw_v (ff_N_start t a1 M) 0 [some (.ref t), some (.ref a1)] [] M := by
  unfold ff_N_start
  refine im_gd (fun hg => ?_)
  refine im_aload_n 0 0 rfl rfl ?_
  refine im_getR 1 1 rfl fd_N_9 (by decide +kernel) (fun x1 => ?_)
  refine im_iconst 2 4 rfl rfl ?_
  refine im_cWv (S := []) (fun _ hv => cpS (fr' := 1) (lo' := 20) (i := 3) (As := [.ref x1, .int (0 : Int32)]) (S := []) rfl lk_N_29 mw_D_fill_a mv_D_fill_a rfl rfl rfl rfl (sp_D_fill_a G hv)) (fun M1 => ?_)
  refine im_aload_n 4 8 rfl rfl ?_
  refine im_getR 5 9 rfl fd_N_15 (by decide +kernel) (fun x2 => ?_)
  refine im_iconst 6 12 rfl rfl ?_
  refine im_cWv (S := []) (fun _ hv => cpS (fr' := 1) (lo' := 20) (i := 7) (As := [.ref x2, .int (0 : Int32)]) (S := []) rfl lk_N_29 mw_D_fill_a mv_D_fill_a rfl rfl rfl rfl (sp_D_fill_a G hv)) (fun M2 => ?_)
  refine im_aload_n 8 16 rfl rfl ?_
  refine im_getR 9 17 rfl fd_N_15 (by decide +kernel) (fun x3 => ?_)
  refine im_iconst 10 20 rfl rfl ?_
  refine im_iconst 11 21 rfl rfl ?_
  refine im_cWv (S := []) (fun _ hv => cpS (fr' := 1) (lo' := 20) (i := 12) (As := [.ref x3, .int (0 : Int32), .int (1 : Int32)]) (S := []) rfl lk_N_33 mw_D_put_a mv_D_put_a rfl rfl rfl rfl (sp_D_put_a G hv)) (fun M3 => ?_)
  refine im_aload_n 13 25 rfl rfl ?_
  refine im_iconst 14 26 rfl rfl ?_
  refine im_putI 15 27 rfl fd_N_37 (Or.inl (by decide +kernel)) (by decide +kernel) (fun M4 => ?_)
  refine im_aload_n 16 30 rfl rfl ?_
  refine im_aload_n 17 31 rfl rfl ?_
  refine im_iconst 18 32 rfl rfl ?_
  refine im_ci (S := [.ref t]) (fun _ hv => cpV (fr' := 2) (lo' := 41) (i := 19) (As := [.int (0 : Int32)]) (S := [.ref t]) (a := a1) (c := 7) rfl lk_N_41 mw_P_firstPoint mv_P_firstPoint rfl ⟨by decide, rfl⟩ rfl rfl rfl (gd_some hv).1 (sp_P_firstPoint G hv)) (fun x4 => ?_)
  refine im_putI 20 36 rfl fd_N_47 (Or.inl (by decide +kernel)) (by decide +kernel) (fun M5 => ?_)
  refine im_aload_n 21 39 rfl rfl ?_
  refine im_iconst 22 40 rfl rfl ?_
  refine im_putI 23 41 rfl fd_N_50 (Or.inl (by decide +kernel)) (by decide +kernel) (fun M6 => ?_)
  refine im_aload_n 24 44 rfl rfl ?_
  refine im_iconst 25 45 rfl rfl ?_
  refine im_putI 26 46 rfl fd_N_53 (Or.inl (by decide +kernel)) (by decide +kernel) (fun M7 => ?_)
  refine im_aload_n 27 49 rfl rfl ?_
  refine im_iconst 28 50 rfl rfl ?_
  refine im_putZ 29 51 rfl fd_N_22 (Or.inl (by decide +kernel)) (by decide +kernel) (fun M8 => ?_)
  exact im_end rfl (wp_return 30 54 rfl rfl)

theorem sp_N_start (G : gl_T) {t : Nat} {a1 : Nat} {M : mm_T} {y : mm_T} (h : ff_N_start t a1 M = some y) : sp_S mi_N_start 3 63 G [.ref t, .ref a1] M (sw_v y).1 (sw_v y).2 := sp_of mo_N_start mw_N_start (Or.inl (by decide +kernel)) rfl rfl (Or.inl rfl) (ip_N_start G t a1 M y h)

set_option maxRecDepth 100000 in
set_option maxHeartbeats 4000000 in
theorem ip_N_leaveBlock (G : gl_T) (t : Nat) (a1 : Nat) (a2 : Int32) (M : mm_T) : im_I mi_N_leaveBlock 3 63 G M sw_v (ff_N_leaveBlock t a1 a2 M) 0 [some (.ref t), some (.ref a1), some (.int a2), none, none] [] M := by
  unfold ff_N_leaveBlock
  refine im_gd (fun hg => ?_)
  refine im_aload_n 0 0 rfl rfl ?_
  refine im_iload_n 1 1 rfl rfl ?_
  refine im_ci (S := []) (fun _ hv => cpV (fr' := 2) (lo' := 41) (i := 2) (As := [.int a2]) (S := []) (a := a1) (c := 7) rfl lk_N_91 mw_P_wayCount mv_P_wayCount rfl ⟨by decide, rfl⟩ rfl rfl rfl (gd_some hv).1 (sp_P_wayCount G hv)) (fun x1 => ?_)
  refine im_if_ne 3 5 14 rfl (by decide) ?_ ?_
  · refine im_aload_n 8 14 rfl rfl ?_
    refine im_iload_n 9 15 rfl rfl ?_
    refine im_ci (S := []) (fun _ hv => cpV (fr' := 2) (lo' := 41) (i := 10) (As := [.int a2]) (S := []) (a := a1) (c := 7) rfl lk_N_91 mw_P_wayCount mv_P_wayCount rfl ⟨by decide, rfl⟩ rfl rfl rfl (gd_some hv).1 (sp_P_wayCount G hv)) (fun x2 => ?_)
    refine im_iconst 11 19 rfl rfl ?_
    refine im_jp (fun j43 => ∀ (x3 : Int32), im_I mi_N_leaveBlock 3 63 G M sw_v (j43 x3) 43 [some (.ref t), some (.ref a1), some (.int a2), none, none] [.int x3] M) ?_ (fun j43 hj43 => ?_)
    · intro x3
      show im_I mi_N_leaveBlock 3 63 G M sw_v (_) 43 [some (.ref t), some (.ref a1), some (.int a2), none, none] [.int x3] M
      refine im_istore_n 23 43 [some (.ref t), some (.ref a1), some (.int a2), some (.int x3), none] rfl rfl rfl ?_
      refine im_aload_n 24 44 rfl rfl ?_
      refine im_iload_n 25 45 rfl rfl ?_
      refine im_iload_n 26 46 rfl rfl ?_
      refine im_jp (fun j55 => ∀ (x4 : Int32), im_I mi_N_leaveBlock 3 63 G M sw_v (j55 x4) 55 [some (.ref t), some (.ref a1), none, none, none] [.int x4, .int a2, .ref a1] M) ?_ (fun j55 hj55 => ?_)
      · intro x4
        show im_I mi_N_leaveBlock 3 63 G M sw_v (_) 55 [some (.ref t), some (.ref a1), none, none, none] [.int x4, .int a2, .ref a1] M
        refine im_ci (S := []) (fun _ hv => cpV (fr' := 2) (lo' := 41) (i := 31) (As := [.int a2, .int x4]) (S := []) (a := a1) (c := 7) rfl lk_N_97 mw_P_wayOf mv_P_wayOf rfl ⟨by decide, rfl⟩ rfl rfl rfl (gd_some hv).1 (sp_P_wayOf G hv)) (fun x5 => ?_)
        refine im_istore 32 58 [some (.ref t), some (.ref a1), none, none, some (.int x5)] rfl rfl rfl ?_
        refine im_aload_n 33 60 rfl rfl ?_
        refine im_getR 34 61 rfl fd_N_15 (by decide +kernel) (fun x6 => ?_)
        refine im_iload 35 64 rfl rfl ?_
        refine im_aload_n 36 66 rfl rfl ?_
        refine im_getR 37 67 rfl fd_N_15 (by decide +kernel) (fun x7 => ?_)
        refine im_iload 38 70 rfl rfl ?_
        refine im_ci (S := [.int x5, .ref x6]) (fun _ hv => cpS (fr' := 1) (lo' := 20) (i := 39) (As := [.ref x7, .int x5]) (S := [.int x5, .ref x6]) rfl lk_N_77 mw_D_at_a mv_D_at_a rfl rfl rfl rfl (sp_D_at_a G hv)) (fun x8 => ?_)
        refine im_iconst 40 75 rfl rfl ?_
        refine im_iadd 41 76 rfl ?_
        refine im_cWv (S := []) (fun _ hv => cpS (fr' := 1) (lo' := 20) (i := 42) (As := [.ref x6, .int x5, .int (x8 + (1 : Int32))]) (S := []) rfl lk_N_33 mw_D_put_a mv_D_put_a rfl rfl rfl rfl (sp_D_put_a G hv)) (fun M1 => ?_)
        refine im_aload_n 43 80 rfl rfl ?_
        refine im_aload_n 44 81 rfl rfl ?_
        refine im_iload 45 82 rfl rfl ?_
        refine im_ci (S := [.ref t]) (fun _ hv => cpV (fr' := 2) (lo' := 41) (i := 46) (As := [.int x5]) (S := [.ref t]) (a := a1) (c := 7) rfl lk_N_41 mw_P_firstPoint mv_P_firstPoint rfl ⟨by decide, rfl⟩ rfl rfl rfl (gd_some hv).1 (sp_P_firstPoint G hv)) (fun x9 => ?_)
        refine im_putI 47 87 rfl fd_N_47 (Or.inl (by decide +kernel)) (by decide +kernel) (fun M2 => ?_)
        exact im_end rfl (wp_return 48 90 rfl rfl)
      refine im_if_eq 27 47 54 rfl (by decide) ?_ ?_
      · refine im_iconst 30 54 rfl rfl ?_
        exact im_less _ (by simp [lv_le]) (hj55 (0 : Int32))
      · refine im_iconst 28 50 rfl rfl ?_
        refine im_goto 29 51 55 rfl (by decide) ?_
        exact im_less _ (by simp [lv_le]) (hj55 (1 : Int32))
    refine im_jp (fun j42 => im_I mi_N_leaveBlock 3 63 G M sw_v (j42) 42 [some (.ref t), some (.ref a1), some (.int a2), none, none] [] M) ?_ (fun j42 hj42 => ?_)
    · show im_I mi_N_leaveBlock 3 63 G M sw_v (_) 42 [some (.ref t), some (.ref a1), some (.int a2), none, none] [] M
      refine im_iconst 22 42 rfl rfl ?_
      exact im_less _ (by simp [lv_le]) (hj43 (0 : Int32))
    refine im_ic_ne 12 20 42 rfl (by decide) ?_ ?_
    · exact im_less _ (by simp [lv_le]) (hj42)
    · refine im_aload_n 13 23 rfl rfl ?_
      refine im_getR 14 24 rfl fd_N_9 (by decide +kernel) (fun x10 => ?_)
      refine im_aload_n 15 27 rfl rfl ?_
      refine im_iload_n 16 28 rfl rfl ?_
      refine im_ci (S := [.ref x10]) (fun _ hv => cpV (fr' := 2) (lo' := 41) (i := 17) (As := [.int a2]) (S := [.ref x10]) (a := a1) (c := 7) rfl lk_N_94 mw_P_testedBy mv_P_testedBy rfl ⟨by decide, rfl⟩ rfl rfl rfl (gd_some hv).1 (sp_P_testedBy G hv)) (fun x11 => ?_)
      refine im_ci (S := []) (fun _ hv => cpS (fr' := 1) (lo' := 20) (i := 18) (As := [.ref x10, .int x11]) (S := []) rfl lk_N_77 mw_D_at_a mv_D_at_a rfl rfl rfl rfl (sp_D_at_a G hv)) (fun x12 => ?_)
      refine im_if_ne 19 35 42 rfl (by decide) ?_ ?_
      · exact im_less _ (by simp [lv_le]) (hj42)
      · refine im_iconst 20 38 rfl rfl ?_
        refine im_goto 21 39 43 rfl (by decide) ?_
        exact im_less _ (by simp [lv_le]) (hj43 (1 : Int32))
  · refine im_aload_n 4 8 rfl rfl ?_
    refine im_iconst 5 9 rfl rfl ?_
    refine im_putZ 6 10 rfl fd_N_22 (Or.inl (by decide +kernel)) (by decide +kernel) (fun M3 => ?_)
    exact im_end rfl (wp_return 7 13 rfl rfl)

theorem sp_N_leaveBlock (G : gl_T) {t : Nat} {a1 : Nat} {a2 : Int32} {M : mm_T} {y : mm_T} (h : ff_N_leaveBlock t a1 a2 M = some y) : sp_S mi_N_leaveBlock 3 63 G [.ref t, .ref a1, .int a2] M (sw_v y).1 (sw_v y).2 := sp_of mo_N_leaveBlock mw_N_leaveBlock (Or.inl (by decide +kernel)) rfl rfl (Or.inl rfl) (ip_N_leaveBlock G t a1 a2 M y h)

set_option maxRecDepth 100000 in
set_option maxHeartbeats 4000000 in
theorem ip_N_execute (G : gl_T) (t : Nat) (a1 : Int32) (M : mm_T) : im_I mi_N_execute 3 64 G M sw_v (ff_N_execute t a1 M) 0 [some (.ref t), some (.int a1), none, none, none] [] M := by
  unfold ff_N_execute
  refine im_gd (fun hg => ?_)
  refine im_iload_n 0 0 rfl rfl ?_
  refine im_ci (S := []) (fun _ hv => cpS (fr' := 1) (lo' := 20) (i := 1) (As := [.int a1]) (S := []) rfl lk_N_100 mw_O_kind mv_O_kind rfl rfl rfl rfl (sp_O_kind G hv)) (fun x1 => ?_)
  refine im_istore_n 2 4 [some (.ref t), some (.int a1), some (.int x1), none, none] rfl rfl rfl ?_
  refine im_aload_n 3 5 rfl rfl ?_
  refine im_getR 4 6 rfl fd_N_9 (by decide +kernel) (fun x2 => ?_)
  refine im_iload_n 5 9 rfl rfl ?_
  refine im_ci (S := [.ref x2]) (fun _ hv => cpS (fr' := 1) (lo' := 20) (i := 6) (As := [.int a1]) (S := [.ref x2]) rfl lk_N_105 mw_O_left mv_O_left rfl rfl rfl rfl (sp_O_left G hv)) (fun x3 => ?_)
  refine im_ci (S := []) (fun _ hv => cpS (fr' := 1) (lo' := 20) (i := 7) (As := [.ref x2, .int x3]) (S := []) rfl lk_N_77 mw_D_at_a mv_D_at_a rfl rfl rfl rfl (sp_D_at_a G hv)) (fun x4 => ?_)
  refine im_istore_n 8 16 [some (.ref t), some (.int a1), some (.int x1), some (.int x4), none] rfl rfl rfl ?_
  refine im_iload_n 9 17 rfl rfl ?_
  refine im_iconst 10 18 rfl rfl ?_
  refine im_ic_ne 11 19 28 rfl (by decide) ?_ ?_
  · refine im_iload_n 16 28 rfl rfl ?_
    refine im_istore 17 29 [some (.ref t), some (.int a1), some (.int x1), some (.int x4), some (.int x4)] rfl rfl rfl ?_
    refine im_iload_n 18 31 rfl rfl ?_
    refine im_jp (fun j70 => ∀ (x5 : Int32), im_I mi_N_execute 3 64 G M sw_v (j70 x5) 70 [some (.ref t), some (.int a1), none, none, some (.int x5)] [] M) ?_ (fun j70 hj70 => ?_)
    · intro x5
      show im_I mi_N_execute 3 64 G M sw_v (_) 70 [some (.ref t), some (.int a1), none, none, some (.int x5)] [] M
      refine im_aload_n 37 70 rfl rfl ?_
      refine im_getR 38 71 rfl fd_N_9 (by decide +kernel) (fun x6 => ?_)
      refine im_iload_n 39 74 rfl rfl ?_
      refine im_ci (S := [.ref x6]) (fun _ hv => cpS (fr' := 1) (lo' := 20) (i := 40) (As := [.int a1]) (S := [.ref x6]) rfl lk_N_121 mw_O_target mv_O_target rfl rfl rfl rfl (sp_O_target G hv)) (fun x7 => ?_)
      refine im_iload 41 78 rfl rfl ?_
      refine im_cWv (S := []) (fun _ hv => cpS (fr' := 1) (lo' := 20) (i := 42) (As := [.ref x6, .int x7, .int x5]) (S := []) rfl lk_N_33 mw_D_put_a mv_D_put_a rfl rfl rfl rfl (sp_D_put_a G hv)) (fun M1 => ?_)
      refine im_aload_n 43 83 rfl rfl ?_
      refine im_dup 44 84 rfl rfl ?_
      refine im_getI 45 85 rfl fd_N_37 (by decide +kernel) (fun x8 => ?_)
      refine im_iconst 46 88 rfl rfl ?_
      refine im_iload_n 47 89 rfl rfl ?_
      refine im_ci (S := [.int (1 : Int32), .int x8, .ref t]) (fun _ hv => cpS (fr' := 1) (lo' := 20) (i := 48) (As := [.int a1]) (S := [.int (1 : Int32), .int x8, .ref t]) rfl lk_N_121 mw_O_target mv_O_target rfl rfl rfl rfl (sp_O_target G hv)) (fun x9 => ?_)
      refine im_ishl 49 93 rfl ?_
      refine im_ior 50 94 rfl ?_
      refine im_putI 51 95 rfl fd_N_37 (Or.inl (by decide +kernel)) (by decide +kernel) (fun M2 => ?_)
      exact im_end rfl (wp_return 52 98 rfl rfl)
    refine im_if_ne 19 32 44 rfl (by decide) ?_ ?_
    · refine im_iload_n 24 44 rfl rfl ?_
      refine im_iconst 25 45 rfl rfl ?_
      refine im_ic_ne 26 46 70 rfl (by decide) ?_ ?_
      · exact im_less _ (by simp [lv_le]) (hj70 x4)
      · refine im_iload_n 27 49 rfl rfl ?_
        refine im_ci (S := []) (fun _ hv => cpS (fr' := 1) (lo' := 20) (i := 28) (As := [.int a1]) (S := []) rfl lk_N_111 mw_O_operator mv_O_operator rfl rfl rfl rfl (sp_O_operator G hv)) (fun x10 => ?_)
        refine im_iload_n 29 53 rfl rfl ?_
        refine im_aload_n 30 54 rfl rfl ?_
        refine im_getR 31 55 rfl fd_N_9 (by decide +kernel) (fun x11 => ?_)
        refine im_iload_n 32 58 rfl rfl ?_
        refine im_ci (S := [.ref x11, .int x4, .int x10]) (fun _ hv => cpS (fr' := 1) (lo' := 20) (i := 33) (As := [.int a1]) (S := [.ref x11, .int x4, .int x10]) rfl lk_N_114 mw_O_right mv_O_right rfl rfl rfl rfl (sp_O_right G hv)) (fun x12 => ?_)
        refine im_ci (S := [.int x4, .int x10]) (fun _ hv => cpS (fr' := 1) (lo' := 20) (i := 34) (As := [.ref x11, .int x12]) (S := [.int x4, .int x10]) rfl lk_N_77 mw_D_at_a mv_D_at_a rfl rfl rfl rfl (sp_D_at_a G hv)) (fun x13 => ?_)
        refine im_ci (S := []) (fun _ hv => cpS (fr' := 2) (lo' := 42) (i := 35) (As := [.int x10, .int x4, .int x13]) (S := []) rfl lk_N_117 mw_O_result mv_O_result rfl rfl rfl rfl (sp_O_result G hv)) (fun x14 => ?_)
        refine im_istore 36 68 [some (.ref t), some (.int a1), some (.int x1), some (.int x4), some (.int x14)] rfl rfl rfl ?_
        exact im_less _ (by simp [lv_le]) (hj70 x14)
    · refine im_iload_n 20 35 rfl rfl ?_
      refine im_ci (S := []) (fun _ hv => cpS (fr' := 1) (lo' := 20) (i := 21) (As := [.int a1]) (S := []) rfl lk_N_108 mw_O_constant mv_O_constant rfl rfl rfl rfl (sp_O_constant G hv)) (fun x15 => ?_)
      refine im_istore 22 39 [some (.ref t), some (.int a1), some (.int x1), some (.int x4), some (.int x15)] rfl rfl rfl ?_
      refine im_goto 23 41 70 rfl (by decide) ?_
      exact im_less _ (by simp [lv_le]) (hj70 x15)
  · refine im_aload_n 12 22 rfl rfl ?_
    refine im_iload_n 13 23 rfl rfl ?_
    refine im_putI 14 24 rfl fd_N_53 (Or.inl (by decide +kernel)) (by decide +kernel) (fun M3 => ?_)
    exact im_end rfl (wp_return 15 27 rfl rfl)

theorem sp_N_execute (G : gl_T) {t : Nat} {a1 : Int32} {M : mm_T} {y : mm_T} (h : ff_N_execute t a1 M = some y) : sp_S mi_N_execute 3 64 G [.ref t, .int a1] M (sw_v y).1 (sw_v y).2 := sp_of mo_N_execute mw_N_execute (Or.inl (by decide +kernel)) rfl rfl (Or.inl rfl) (ip_N_execute G t a1 M y h)

set_option maxRecDepth 100000 in
set_option maxHeartbeats 4000000 in
theorem ip_N_step (G : gl_T) (t : Nat) (a1 : Nat) (M : mm_T) : im_I mi_N_step 4 88 G M sw_v (ff_N_step t a1 M) 0 [some (.ref t), some (.ref a1)] [] M := by
  unfold ff_N_step
  refine im_gd (fun hg => ?_)
  refine im_aload_n 0 0 rfl rfl ?_
  refine im_dup 1 1 rfl rfl ?_
  refine im_getI 2 2 rfl fd_N_50 (by decide +kernel) (fun x1 => ?_)
  refine im_iconst 3 5 rfl rfl ?_
  refine im_iadd 4 6 rfl ?_
  refine im_putI 5 7 rfl fd_N_50 (Or.inl (by decide +kernel)) (by decide +kernel) (fun M1 => ?_)
  refine im_aload_n 6 10 rfl rfl ?_
  refine im_aload_n 7 11 rfl rfl ?_
  refine im_getI 8 12 rfl fd_N_47 (by decide +kernel) (fun x2 => ?_)
  refine im_ci (S := []) (fun _ hv => cpV (fr' := 2) (lo' := 41) (i := 9) (As := [.int x2]) (S := []) (a := a1) (c := 7) rfl lk_N_56 mw_P_kindAt mv_P_kindAt rfl ⟨by decide, rfl⟩ rfl rfl rfl (gd_some hv).1 (sp_P_kindAt G hv)) (fun x3 => ?_)
  refine im_iconst 10 18 rfl rfl ?_
  refine im_ic_ne 11 19 38 rfl (by decide) ?_ ?_
  · refine im_aload_n 20 38 rfl rfl ?_
    refine im_aload_n 21 39 rfl rfl ?_
    refine im_aload_n 22 40 rfl rfl ?_
    refine im_getI 23 41 rfl fd_N_47 (by decide +kernel) (fun x4 => ?_)
    refine im_ci (S := [.ref t]) (fun _ hv => cpV (fr' := 2) (lo' := 41) (i := 24) (As := [.int x4]) (S := [.ref t]) (a := a1) (c := 7) rfl lk_N_66 mw_P_word mv_P_word rfl ⟨by decide, rfl⟩ rfl rfl rfl (gd_some hv).1 (sp_P_word G hv)) (fun x5 => ?_)
    refine im_cWv (S := []) (fun _ hv => cpV (fr' := 3) (lo' := 64) (i := 25) (As := [.int x5]) (S := []) (a := t) (c := 5) rfl lk_N_69 mw_N_execute mv_N_execute rfl ⟨by decide, rfl⟩ rfl rfl rfl (gd_some hv).1 (sp_N_execute G hv)) (fun M2 => ?_)
    refine im_aload_n 26 50 rfl rfl ?_
    refine im_aload_n 27 51 rfl rfl ?_
    refine im_aload_n 28 52 rfl rfl ?_
    refine im_getI 29 53 rfl fd_N_47 (by decide +kernel) (fun x6 => ?_)
    refine im_iconst 30 56 rfl rfl ?_
    refine im_ci (S := [.ref t]) (fun _ hv => cpV (fr' := 3) (lo' := 63) (i := 31) (As := [.int x6, .int (0 : Int32)]) (S := [.ref t]) (a := a1) (c := 7) rfl lk_N_73 mw_P_nextPoint mv_P_nextPoint rfl ⟨by decide, rfl⟩ rfl rfl rfl (gd_some hv).1 (sp_P_nextPoint G hv)) (fun x7 => ?_)
    refine im_putI 32 60 rfl fd_N_47 (Or.inl (by decide +kernel)) (by decide +kernel) (fun M3 => ?_)
    exact im_end rfl (wp_return 33 63 rfl rfl)
  · refine im_aload_n 12 22 rfl rfl ?_
    refine im_aload_n 13 23 rfl rfl ?_
    refine im_aload_n 14 24 rfl rfl ?_
    refine im_aload_n 15 25 rfl rfl ?_
    refine im_getI 16 26 rfl fd_N_47 (by decide +kernel) (fun x8 => ?_)
    refine im_ci (S := [.ref a1, .ref t]) (fun _ hv => cpV (fr' := 2) (lo' := 41) (i := 17) (As := [.int x8]) (S := [.ref a1, .ref t]) (a := a1) (c := 7) rfl lk_N_59 mw_P_blockAt mv_P_blockAt rfl ⟨by decide, rfl⟩ rfl rfl rfl (gd_some hv).1 (sp_P_blockAt G hv)) (fun x9 => ?_)
    refine im_cWv (S := []) (fun _ hv => cpV (fr' := 3) (lo' := 63) (i := 18) (As := [.ref a1, .int x9]) (S := []) (a := t) (c := 5) rfl lk_N_62 mw_N_leaveBlock mv_N_leaveBlock rfl ⟨by decide, rfl⟩ rfl rfl rfl (gd_some hv).1 (sp_N_leaveBlock G hv)) (fun M4 => ?_)
    refine im_goto 19 35 63 rfl (by decide) ?_
    exact im_end rfl (wp_return 33 63 rfl rfl)

theorem sp_N_step (G : gl_T) {t : Nat} {a1 : Nat} {M : mm_T} {y : mm_T} (h : ff_N_step t a1 M = some y) : sp_S mi_N_step 4 88 G [.ref t, .ref a1] M (sw_v y).1 (sw_v y).2 := sp_of mo_N_step mw_N_step (Or.inl (by decide +kernel)) rfl rfl (Or.inl rfl) (ip_N_step G t a1 M y h)

