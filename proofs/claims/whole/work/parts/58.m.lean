set_option maxRecDepth 100000 in
set_option maxHeartbeats 4000000 in
theorem li_N_run_7 (G : gl_T) (M0 : mm_T) (p0 : Nat) (p1 : Nat) (p2 : Int32) : ∀ (fu : Nat) (q3 : Int32) (N : mm_T), im_I mi_N_run 5 109 G M0 sw_v (lf_N_run_7 p0 p1 p2 fu q3 N) 7 [some (.ref p0), some (.ref p1), some (.int p2), some (.int q3)] [] N := by
  intro fu
  induction fu with
  | zero => intro _ _; exact im_none
  | succ fu ih =>
    intro q3 N
    show im_I mi_N_run 5 109 G M0 sw_v (lb_N_run_7 p0 p1 p2 (lf_N_run_7 p0 p1 p2 fu) q3 N) 7 [some (.ref p0), some (.ref p1), some (.int p2), some (.int q3)] [] N
    unfold lb_N_run_7
    refine im_iload_n 5 7 rfl rfl ?_
    refine im_iload_n 6 8 rfl rfl ?_
    refine im_ic_ge 7 9 30 rfl (by decide) ?_ ?_
    · exact im_end rfl (wp_return 16 30 rfl rfl)
    · refine im_aload_n 8 12 rfl rfl ?_
      refine im_getI 9 13 rfl fd_N_22 (by decide +kernel) (fun x1 => ?_)
      refine im_if_ne 10 16 30 rfl (by decide) ?_ ?_
      · exact im_end rfl (wp_return 16 30 rfl rfl)
      · refine im_aload_n 11 19 rfl rfl ?_
        refine im_aload_n 12 20 rfl rfl ?_
        refine im_cWv (S := []) (fun _ hv => cpV (fr' := 4) (lo' := 88) (i := 13) (As := [.ref p1]) (S := []) (a := p0) (c := 5) rfl lk_N_26 mw_N_step mv_N_step rfl ⟨by decide, rfl⟩ rfl rfl rfl (gd_some hv).1 (sp_N_step G hv)) (fun M2 => ?_)
        refine im_iincL 14 24 (fun x2 => [some (.ref p0), some (.ref p1), some (.int p2), some (.int x2)]) rfl rfl rfl rfl (fun _ => rfl) (fun x2 => ?_)
        refine im_goto 15 27 7 rfl (by decide) ?_
        exact im_less _ (by simp [lv_le]) (ih x2 M2)

set_option maxRecDepth 100000 in
set_option maxHeartbeats 4000000 in
theorem ip_N_run (G : gl_T) (t : Nat) (a1 : Nat) (a2 : Int32) (M : mm_T) : im_I mi_N_run 5 109 G M sw_v (ff_N_run t a1 a2 M) 0 [some (.ref t), some (.ref a1), some (.int a2), none] [] M := by
  unfold ff_N_run
  refine im_gd (fun hg => ?_)
  refine im_aload_n 0 0 rfl rfl ?_
  refine im_aload_n 1 1 rfl rfl ?_
  refine im_cWv (S := []) (fun _ hv => cpV (fr' := 3) (lo' := 63) (i := 2) (As := [.ref a1]) (S := []) (a := t) (c := 5) rfl lk_N_18 mw_N_start mv_N_start rfl ⟨by decide, rfl⟩ rfl rfl rfl (gd_some hv).1 (sp_N_start G hv)) (fun M1 => ?_)
  refine im_iconst 3 5 rfl rfl ?_
  refine im_istore_n 4 6 [some (.ref t), some (.ref a1), some (.int a2), some (.int (0 : Int32))] rfl rfl rfl ?_
  refine im_less [some (.ref t), some (.ref a1), some (.int a2), some (.int (0 : Int32))] (by simp [lv_le]) ?_
  exact li_N_run_7 G M t a1 a2 fu_L (0 : Int32) M1

theorem sp_N_run (G : gl_T) {t : Nat} {a1 : Nat} {a2 : Int32} {M : mm_T} {y : mm_T} (h : ff_N_run t a1 a2 M = some y) : sp_S mi_N_run 5 109 G [.ref t, .ref a1, .int a2] M (sw_v y).1 (sw_v y).2 := sp_of mo_N_run mw_N_run (Or.inl (by decide +kernel)) rfl rfl (Or.inl rfl) (ip_N_run G t a1 a2 M y h)

set_option maxRecDepth 100000 in
set_option maxHeartbeats 4000000 in
theorem ip_D_runSteps (G : gl_T) (t : Nat) (a1 : Int32) (M : mm_T) : im_I mi_D_runSteps 7 132 G M sX_i (ff_D_runSteps t a1 M) 0 [some (.ref t), some (.int a1)] [] M := by
  unfold ff_D_runSteps
  refine im_gd (fun hg => ?_)
  refine im_iload_n 0 0 rfl rfl ?_
  refine im_rq (S := []) (fun hv => cpS (fr' := 6) (lo' := 90) (i := 1) (As := [.int a1]) (S := []) rfl lk_D_297 mw_D_requireLimit mv_D_requireLimit rfl rfl rfl rfl (sp_D_requireLimit G hv)) (fun _ hv => xpS (fr' := 6) (lo' := 90) (i := 1) (As := [.int a1]) (S := []) rfl lm_D_297 mw_D_requireLimit mv_D_requireLimit rfl rfl rfl rfl (sp_D_requireLimit G hv) (tw_out rfl)) (fun _ => rfl) ?_
  refine im_aload_n 2 4 rfl rfl ?_
  refine im_getR 3 5 rfl fd_D_79 (by decide +kernel) (fun x1 => ?_)
  refine im_aload_n 4 8 rfl rfl ?_
  refine im_getR 5 9 rfl fd_D_87 (by decide +kernel) (fun x2 => ?_)
  refine im_iload_n 6 12 rfl rfl ?_
  refine im_cWv (S := []) (fun _ hv => cpV (fr' := 5) (lo' := 109) (i := 7) (As := [.ref x2, .int a1]) (S := []) (a := x1) (c := 5) rfl lk_D_300 mw_N_run mv_N_run rfl ⟨by decide, rfl⟩ rfl rfl rfl (gd_some hv).1 (sp_N_run G hv)) (fun M1 => ?_)
  refine im_aload_n 8 16 rfl rfl ?_
  refine im_getR 9 17 rfl fd_D_79 (by decide +kernel) (fun x3 => ?_)
  refine im_getI 10 20 rfl fd_D_304 (by decide +kernel) (fun x4 => ?_)
  exact im_end rfl (wp_ireturn 11 23 rfl rfl)

theorem sp_D_runSteps (G : gl_T) {t : Nat} {a1 : Int32} {M : mm_T} {y : (Int32 ⊕ String) × mm_T} (h : ff_D_runSteps t a1 M = some y) : sp_S mi_D_runSteps 7 132 G [.ref t, .int a1] M (sX_i y).1 (sX_i y).2 := sp_of mo_D_runSteps mw_D_runSteps (Or.inl (by decide +kernel)) rfl rfl (Or.inl rfl) (ip_D_runSteps G t a1 M y h)

set_option maxRecDepth 100000 in
set_option maxHeartbeats 4000000 in
theorem ip_D_runEnds (G : gl_T) (t : Nat) (a1 : Int32) (M : mm_T) : im_I mi_D_runEnds 7 132 G M sX_i (ff_D_runEnds t a1 M) 0 [some (.ref t), some (.int a1)] [] M := by
  unfold ff_D_runEnds
  refine im_gd (fun hg => ?_)
  refine im_iload_n 0 0 rfl rfl ?_
  refine im_rq (S := []) (fun hv => cpS (fr' := 6) (lo' := 90) (i := 1) (As := [.int a1]) (S := []) rfl lk_D_297 mw_D_requireLimit mv_D_requireLimit rfl rfl rfl rfl (sp_D_requireLimit G hv)) (fun _ hv => xpS (fr' := 6) (lo' := 90) (i := 1) (As := [.int a1]) (S := []) rfl lm_D_297 mw_D_requireLimit mv_D_requireLimit rfl rfl rfl rfl (sp_D_requireLimit G hv) (tw_out rfl)) (fun _ => rfl) ?_
  refine im_aload_n 2 4 rfl rfl ?_
  refine im_getR 3 5 rfl fd_D_79 (by decide +kernel) (fun x1 => ?_)
  refine im_aload_n 4 8 rfl rfl ?_
  refine im_getR 5 9 rfl fd_D_87 (by decide +kernel) (fun x2 => ?_)
  refine im_iload_n 6 12 rfl rfl ?_
  refine im_cWv (S := []) (fun _ hv => cpV (fr' := 5) (lo' := 109) (i := 7) (As := [.ref x2, .int a1]) (S := []) (a := x1) (c := 5) rfl lk_D_300 mw_N_run mv_N_run rfl ⟨by decide, rfl⟩ rfl rfl rfl (gd_some hv).1 (sp_N_run G hv)) (fun M1 => ?_)
  refine im_aload_n 8 16 rfl rfl ?_
  refine im_getR 9 17 rfl fd_D_79 (by decide +kernel) (fun x3 => ?_)
  refine im_getI 10 20 rfl fd_D_307 (by decide +kernel) (fun x4 => ?_)
  exact im_endZ (fun _ => rfl) (fun hn => wp_zreturn 11 23 (ty := .boolean) rfl hn rfl)

theorem sp_D_runEnds (G : gl_T) {t : Nat} {a1 : Int32} {M : mm_T} {y : (Int32 ⊕ String) × mm_T} (h : ff_D_runEnds t a1 M = some y) : sp_S mi_D_runEnds 7 132 G [.ref t, .int a1] M (sX_i y).1 (sX_i y).2 := sp_of mo_D_runEnds mw_D_runEnds (Or.inl (by decide +kernel)) rfl rfl (Or.inl rfl) (ip_D_runEnds G t a1 M y h)

set_option maxRecDepth 100000 in
set_option maxHeartbeats 4000000 in
theorem ip_D_requireSteps (G : gl_T) (a1 : Int32) (M : mm_T) : im_I mi_D_requireSteps 6 90 G M (sx_v M) (ff_D_requireSteps a1 M) 0 [some (.int a1)] [] M := by
  unfold ff_D_requireSteps
  refine im_iload_n 0 0 rfl rfl ?_
  refine im_jp (fun j11 => im_I mi_D_requireSteps 6 90 G M (sx_v M) (j11) 11 [none] [] M) ?_ (fun j11 hj11 => ?_)
  · show im_I mi_D_requireSteps 6 90 G M (sx_v M) (_) 11 [none] [] M
    exact im_endX rfl (wp_throwW (i := 5) th_D_105_459_109 rfl rfl rfl rfl rfl rfl rfl rfl rfl rfl)
  refine im_if_lt 1 1 11 rfl (by decide) ?_ ?_
  · exact im_less _ (by simp [lv_le]) (hj11)
  · refine im_iload_n 2 4 rfl rfl ?_
    refine im_sipush 3 5 rfl rfl ?_
    refine im_ic_le 4 8 22 rfl (by decide) ?_ ?_
    · exact im_end rfl (wp_return 10 22 rfl rfl)
    · exact im_less _ (by simp [lv_le]) (hj11)

theorem sp_D_requireSteps (G : gl_T) {a1 : Int32} {M : mm_T} {y : Option String} (h : ff_D_requireSteps a1 M = some y) : sp_S mi_D_requireSteps 6 90 G [.int a1] M ((sx_v M) y).1 ((sx_v M) y).2 := sp_of mo_D_requireSteps mw_D_requireSteps (Or.inl (by decide +kernel)) rfl rfl (Or.inl rfl) (ip_D_requireSteps G a1 M y h)

set_option maxRecDepth 100000 in
set_option maxHeartbeats 4000000 in
theorem ip_N_value (G : gl_T) (t : Nat) (a1 : Int32) (M : mm_T) : im_I mi_N_value 2 41 G M (sh_i M) (ff_N_value t a1 M) 0 [some (.ref t), some (.int a1)] [] M := by
  unfold ff_N_value
  refine im_gd (fun hg => ?_)
  refine im_aload_n 0 0 rfl rfl ?_
  refine im_getR 1 1 rfl fd_N_9 (by decide +kernel) (fun x1 => ?_)
  refine im_iload_n 2 4 rfl rfl ?_
  refine im_ci (S := []) (fun _ hv => cpS (fr' := 1) (lo' := 20) (i := 3) (As := [.ref x1, .int a1]) (S := []) rfl lk_N_77 mw_D_at_a mv_D_at_a rfl rfl rfl rfl (sp_D_at_a G hv)) (fun x2 => ?_)
  exact im_end rfl (wp_ireturn 4 8 rfl rfl)

theorem sp_N_value (G : gl_T) {t : Nat} {a1 : Int32} {M : mm_T} {y : Int32} (h : ff_N_value t a1 M = some y) : sp_S mi_N_value 2 41 G [.ref t, .int a1] M ((sh_i M) y).1 ((sh_i M) y).2 := sp_of mo_N_value mw_N_value (Or.inl (by decide +kernel)) rfl rfl (Or.inl rfl) (ip_N_value G t a1 M y h)

set_option maxRecDepth 100000 in
set_option maxHeartbeats 4000000 in
theorem ip_D_valueAfter (G : gl_T) (t : Nat) (a1 : Int32) (a2 : Int32) (M : mm_T) : im_I mi_D_valueAfter 7 132 G M sX_i (ff_D_valueAfter t a1 a2 M) 0 [some (.ref t), some (.int a1), some (.int a2)] [] M := by
  unfold ff_D_valueAfter
  refine im_gd (fun hg => ?_)
  refine im_iload_n 0 0 rfl rfl ?_
  refine im_rq (S := []) (fun hv => cpS (fr' := 6) (lo' := 90) (i := 1) (As := [.int a1]) (S := []) rfl lk_D_311 mw_D_requireSteps mv_D_requireSteps rfl rfl rfl rfl (sp_D_requireSteps G hv)) (fun _ hv => xpS (fr' := 6) (lo' := 90) (i := 1) (As := [.int a1]) (S := []) rfl lm_D_311 mw_D_requireSteps mv_D_requireSteps rfl rfl rfl rfl (sp_D_requireSteps G hv) (tw_out rfl)) (fun _ => rfl) ?_
  refine im_iload_n 2 4 rfl rfl ?_
  refine im_rq (S := []) (fun hv => cpS (fr' := 6) (lo' := 90) (i := 3) (As := [.int a2]) (S := []) rfl lk_D_199 mw_D_requireVariable mv_D_requireVariable rfl rfl rfl rfl (sp_D_requireVariable G hv)) (fun _ hv => xpS (fr' := 6) (lo' := 90) (i := 3) (As := [.int a2]) (S := []) rfl lm_D_199 mw_D_requireVariable mv_D_requireVariable rfl rfl rfl rfl (sp_D_requireVariable G hv) (tw_out rfl)) (fun _ => rfl) ?_
  refine im_aload_n 4 8 rfl rfl ?_
  refine im_getR 5 9 rfl fd_D_79 (by decide +kernel) (fun x1 => ?_)
  refine im_aload_n 6 12 rfl rfl ?_
  refine im_getR 7 13 rfl fd_D_87 (by decide +kernel) (fun x2 => ?_)
  refine im_iload_n 8 16 rfl rfl ?_
  refine im_cWv (S := []) (fun _ hv => cpV (fr' := 5) (lo' := 109) (i := 9) (As := [.ref x2, .int a1]) (S := []) (a := x1) (c := 5) rfl lk_D_300 mw_N_run mv_N_run rfl ⟨by decide, rfl⟩ rfl rfl rfl (gd_some hv).1 (sp_N_run G hv)) (fun M1 => ?_)
  refine im_aload_n 10 20 rfl rfl ?_
  refine im_getR 11 21 rfl fd_D_79 (by decide +kernel) (fun x3 => ?_)
  refine im_iload_n 12 24 rfl rfl ?_
  refine im_ci (S := []) (fun _ hv => cpV (fr' := 2) (lo' := 41) (i := 13) (As := [.int a2]) (S := []) (a := x3) (c := 5) rfl lk_D_314 mw_N_value mv_N_value rfl ⟨by decide, rfl⟩ rfl rfl rfl (gd_some hv).1 (sp_N_value G hv)) (fun x4 => ?_)
  exact im_end rfl (wp_ireturn 14 28 rfl rfl)

theorem sp_D_valueAfter (G : gl_T) {t : Nat} {a1 : Int32} {a2 : Int32} {M : mm_T} {y : (Int32 ⊕ String) × mm_T} (h : ff_D_valueAfter t a1 a2 M = some y) : sp_S mi_D_valueAfter 7 132 G [.ref t, .int a1, .int a2] M (sX_i y).1 (sX_i y).2 := sp_of mo_D_valueAfter mw_D_valueAfter (Or.inl (by decide +kernel)) rfl rfl (Or.inl rfl) (ip_D_valueAfter G t a1 a2 M y h)

set_option maxRecDepth 100000 in
set_option maxHeartbeats 4000000 in
theorem ip_D_lastShown (G : gl_T) (t : Nat) (a1 : Int32) (M : mm_T) : im_I mi_D_lastShown 7 132 G M sX_i (ff_D_lastShown t a1 M) 0 [some (.ref t), some (.int a1)] [] M := by
  unfold ff_D_lastShown
  refine im_gd (fun hg => ?_)
  refine im_iload_n 0 0 rfl rfl ?_
  refine im_rq (S := []) (fun hv => cpS (fr' := 6) (lo' := 90) (i := 1) (As := [.int a1]) (S := []) rfl lk_D_311 mw_D_requireSteps mv_D_requireSteps rfl rfl rfl rfl (sp_D_requireSteps G hv)) (fun _ hv => xpS (fr' := 6) (lo' := 90) (i := 1) (As := [.int a1]) (S := []) rfl lm_D_311 mw_D_requireSteps mv_D_requireSteps rfl rfl rfl rfl (sp_D_requireSteps G hv) (tw_out rfl)) (fun _ => rfl) ?_
  refine im_aload_n 2 4 rfl rfl ?_
  refine im_getR 3 5 rfl fd_D_79 (by decide +kernel) (fun x1 => ?_)
  refine im_aload_n 4 8 rfl rfl ?_
  refine im_getR 5 9 rfl fd_D_87 (by decide +kernel) (fun x2 => ?_)
  refine im_iload_n 6 12 rfl rfl ?_
  refine im_cWv (S := []) (fun _ hv => cpV (fr' := 5) (lo' := 109) (i := 7) (As := [.ref x2, .int a1]) (S := []) (a := x1) (c := 5) rfl lk_D_300 mw_N_run mv_N_run rfl ⟨by decide, rfl⟩ rfl rfl rfl (gd_some hv).1 (sp_N_run G hv)) (fun M1 => ?_)
  refine im_aload_n 8 16 rfl rfl ?_
  refine im_getR 9 17 rfl fd_D_79 (by decide +kernel) (fun x3 => ?_)
  refine im_getI 10 20 rfl fd_D_317 (by decide +kernel) (fun x4 => ?_)
  exact im_end rfl (wp_ireturn 11 23 rfl rfl)

theorem sp_D_lastShown (G : gl_T) {t : Nat} {a1 : Int32} {M : mm_T} {y : (Int32 ⊕ String) × mm_T} (h : ff_D_lastShown t a1 M = some y) : sp_S mi_D_lastShown 7 132 G [.ref t, .int a1] M (sX_i y).1 (sX_i y).2 := sp_of mo_D_lastShown mw_D_lastShown (Or.inl (by decide +kernel)) rfl rfl (Or.inl rfl) (ip_D_lastShown G t a1 M y h)

set_option maxRecDepth 100000 in
set_option maxHeartbeats 4000000 in
theorem ip_N_entriesInto (G : gl_T) (t : Nat) (a1 : Int32) (M : mm_T) : im_I mi_N_entriesInto 2 41 G M (sh_i M) (ff_N_entriesInto t a1 M) 0 [some (.ref t), some (.int a1)] [] M := by
  unfold ff_N_entriesInto
  refine im_gd (fun hg => ?_)
  refine im_aload_n 0 0 rfl rfl ?_
  refine im_getR 1 1 rfl fd_N_15 (by decide +kernel) (fun x1 => ?_)
  refine im_iload_n 2 4 rfl rfl ?_
  refine im_ci (S := []) (fun _ hv => cpS (fr' := 1) (lo' := 20) (i := 3) (As := [.ref x1, .int a1]) (S := []) rfl lk_N_77 mw_D_at_a mv_D_at_a rfl rfl rfl rfl (sp_D_at_a G hv)) (fun x2 => ?_)
  exact im_end rfl (wp_ireturn 4 8 rfl rfl)

theorem sp_N_entriesInto (G : gl_T) {t : Nat} {a1 : Int32} {M : mm_T} {y : Int32} (h : ff_N_entriesInto t a1 M = some y) : sp_S mi_N_entriesInto 2 41 G [.ref t, .int a1] M ((sh_i M) y).1 ((sh_i M) y).2 := sp_of mo_N_entriesInto mw_N_entriesInto (Or.inl (by decide +kernel)) rfl rfl (Or.inl rfl) (ip_N_entriesInto G t a1 M y h)

set_option maxRecDepth 100000 in
set_option maxHeartbeats 4000000 in
theorem ip_D_visits (G : gl_T) (t : Nat) (a1 : Int32) (a2 : Int32) (M : mm_T) : im_I mi_D_visits 7 132 G M sX_i (ff_D_visits t a1 a2 M) 0 [some (.ref t), some (.int a1), some (.int a2)] [] M := by
  unfold ff_D_visits
  refine im_gd (fun hg => ?_)
  refine im_aload_n 0 0 rfl rfl ?_
  refine im_iload_n 1 1 rfl rfl ?_
  refine im_rq (S := []) (fun hv => cpV (fr' := 6) (lo' := 90) (i := 2) (As := [.int a1]) (S := []) (a := t) (c := 10) rfl lk_D_137 mw_D_requireBlock mv_D_requireBlock rfl ⟨by decide, rfl⟩ rfl rfl rfl (gd_some hv).1 (sp_D_requireBlock G hv)) (fun _ hv => xpV (fr' := 6) (lo' := 90) (i := 2) (As := [.int a1]) (S := []) (a := t) (c := 10) rfl lm_D_137 mw_D_requireBlock mv_D_requireBlock rfl ⟨by decide, rfl⟩ rfl rfl rfl (gd_some hv).1 (sp_D_requireBlock G hv) (tw_out rfl)) (fun _ => rfl) ?_
  refine im_iload_n 3 5 rfl rfl ?_
  refine im_rq (S := []) (fun hv => cpS (fr' := 6) (lo' := 90) (i := 4) (As := [.int a2]) (S := []) rfl lk_D_311 mw_D_requireSteps mv_D_requireSteps rfl rfl rfl rfl (sp_D_requireSteps G hv)) (fun _ hv => xpS (fr' := 6) (lo' := 90) (i := 4) (As := [.int a2]) (S := []) rfl lm_D_311 mw_D_requireSteps mv_D_requireSteps rfl rfl rfl rfl (sp_D_requireSteps G hv) (tw_out rfl)) (fun _ => rfl) ?_
  refine im_aload_n 5 9 rfl rfl ?_
  refine im_getR 6 10 rfl fd_D_79 (by decide +kernel) (fun x1 => ?_)
  refine im_aload_n 7 13 rfl rfl ?_
  refine im_getR 8 14 rfl fd_D_87 (by decide +kernel) (fun x2 => ?_)
  refine im_iload_n 9 17 rfl rfl ?_
  refine im_cWv (S := []) (fun _ hv => cpV (fr' := 5) (lo' := 109) (i := 10) (As := [.ref x2, .int a2]) (S := []) (a := x1) (c := 5) rfl lk_D_300 mw_N_run mv_N_run rfl ⟨by decide, rfl⟩ rfl rfl rfl (gd_some hv).1 (sp_N_run G hv)) (fun M1 => ?_)
  refine im_aload_n 11 21 rfl rfl ?_
  refine im_getR 12 22 rfl fd_D_79 (by decide +kernel) (fun x3 => ?_)
  refine im_iload_n 13 25 rfl rfl ?_
  refine im_ci (S := []) (fun _ hv => cpV (fr' := 2) (lo' := 41) (i := 14) (As := [.int a1]) (S := []) (a := x3) (c := 5) rfl lk_D_320 mw_N_entriesInto mv_N_entriesInto rfl ⟨by decide, rfl⟩ rfl rfl rfl (gd_some hv).1 (sp_N_entriesInto G hv)) (fun x4 => ?_)
  exact im_end rfl (wp_ireturn 15 29 rfl rfl)

theorem sp_D_visits (G : gl_T) {t : Nat} {a1 : Int32} {a2 : Int32} {M : mm_T} {y : (Int32 ⊕ String) × mm_T} (h : ff_D_visits t a1 a2 M = some y) : sp_S mi_D_visits 7 132 G [.ref t, .int a1, .int a2] M (sX_i y).1 (sX_i y).2 := sp_of mo_D_visits mw_D_visits (Or.inl (by decide +kernel)) rfl rfl (Or.inl rfl) (ip_D_visits G t a1 a2 M y h)

set_option maxRecDepth 100000 in
set_option maxHeartbeats 4000000 in
theorem li_N_contradicts_a_2 (G : gl_T) (p0 : Nat) (p1 : Nat) (M : mm_T) : ∀ (fu : Nat) (q2 : Int32), im_I mi_N_contradicts_a 4 85 G M (sh_i M) (lf_N_contradicts_a_2 p0 p1 M fu q2) 2 [some (.ref p0), some (.ref p1), some (.int q2), none] [] M := by
  intro fu
  induction fu with
  | zero => intro _; exact im_none
  | succ fu ih =>
    intro q2
    show im_I mi_N_contradicts_a 4 85 G M (sh_i M) (lb_N_contradicts_a_2 p0 p1 M (lf_N_contradicts_a_2 p0 p1 M fu) q2) 2 [some (.ref p0), some (.ref p1), some (.int q2), none] [] M
    unfold lb_N_contradicts_a_2
    refine im_iload_n 2 2 rfl rfl ?_
    refine im_bipush 3 3 rfl rfl ?_
    refine im_ic_ge 4 5 43 rfl (by decide) ?_ ?_
    · refine im_iconst 24 43 rfl rfl ?_
      exact im_end rfl (wp_zreturn 25 44 (ty := .boolean) rfl (by first | exact nz_0 | exact nz_1) rfl)
    · refine im_aload_n 5 8 rfl rfl ?_
      refine im_aload_n 6 9 rfl rfl ?_
      refine im_getI 7 10 rfl fd_N_47 (by decide +kernel) (fun x1 => ?_)
      refine im_iload_n 8 13 rfl rfl ?_
      refine im_ci (S := []) (fun _ hv => cpV (fr' := 3) (lo' := 63) (i := 9) (As := [.int x1, .int q2]) (S := []) (a := p1) (c := 1) rfl lk_N_81 mw_C_constantBefore mv_C_constantBefore rfl ⟨by decide, rfl⟩ rfl rfl rfl (gd_some hv).1 (sp_C_constantBefore G hv)) (fun x2 => ?_)
      refine im_istore_n 10 17 [some (.ref p0), some (.ref p1), some (.int q2), some (.int x2)] rfl rfl rfl ?_
      refine im_iload_n 11 18 rfl rfl ?_
      refine im_iconst 12 19 rfl rfl ?_
      refine im_jp (fun j37 => im_I mi_N_contradicts_a 4 85 G M (sh_i M) (j37) 37 [some (.ref p0), some (.ref p1), some (.int q2), none] [] M) ?_ (fun j37 hj37 => ?_)
      · show im_I mi_N_contradicts_a 4 85 G M (sh_i M) (_) 37 [some (.ref p0), some (.ref p1), some (.int q2), none] [] M
        refine im_iincL 22 37 (fun x3 => [some (.ref p0), some (.ref p1), some (.int x3), none]) rfl rfl rfl rfl (fun _ => rfl) (fun x3 => ?_)
        refine im_goto 23 40 2 rfl (by decide) ?_
        exact im_less _ (by simp [lv_le]) (ih x3)
      refine im_ic_eq 13 20 37 rfl (by decide) ?_ ?_
      · exact im_less _ (by simp [lv_le]) (hj37)
      · refine im_iload_n 14 23 rfl rfl ?_
        refine im_aload_n 15 24 rfl rfl ?_
        refine im_getR 16 25 rfl fd_N_9 (by decide +kernel) (fun x4 => ?_)
        refine im_iload_n 17 28 rfl rfl ?_
        refine im_ci (S := [.int x2]) (fun _ hv => cpS (fr' := 1) (lo' := 20) (i := 18) (As := [.ref x4, .int q2]) (S := [.int x2]) rfl lk_N_77 mw_D_at_a mv_D_at_a rfl rfl rfl rfl (sp_D_at_a G hv)) (fun x5 => ?_)
        refine im_ic_eq 19 32 37 rfl (by decide) ?_ ?_
        · exact im_less _ (by simp [lv_le]) (hj37)
        · refine im_iconst 20 35 rfl rfl ?_
          exact im_end rfl (wp_zreturn 21 36 (ty := .boolean) rfl (by first | exact nz_0 | exact nz_1) rfl)

set_option maxRecDepth 100000 in
set_option maxHeartbeats 4000000 in
theorem ip_N_contradicts_a (G : gl_T) (t : Nat) (a1 : Nat) (M : mm_T) : im_I mi_N_contradicts_a 4 85 G M (sh_i M) (ff_N_contradicts_a t a1 M) 0 [some (.ref t), some (.ref a1), none, none] [] M := by
  unfold ff_N_contradicts_a
  refine im_gd (fun hg => ?_)
  refine im_iconst 0 0 rfl rfl ?_
  refine im_istore_n 1 1 [some (.ref t), some (.ref a1), some (.int (0 : Int32)), none] rfl rfl rfl ?_
  refine im_less [some (.ref t), some (.ref a1), some (.int (0 : Int32)), none] (by simp [lv_le]) ?_
  exact li_N_contradicts_a_2 G t a1 M fu_L (0 : Int32)

theorem sp_N_contradicts_a (G : gl_T) {t : Nat} {a1 : Nat} {M : mm_T} {y : Int32} (h : ff_N_contradicts_a t a1 M = some y) : sp_S mi_N_contradicts_a 4 85 G [.ref t, .ref a1] M ((sh_i M) y).1 ((sh_i M) y).2 := sp_of mo_N_contradicts_a mw_N_contradicts_a (Or.inl (by decide +kernel)) rfl rfl (Or.inl rfl) (ip_N_contradicts_a G t a1 M y h)

set_option maxRecDepth 100000 in
set_option maxHeartbeats 4000000 in
theorem ip_N_contradicts_b (G : gl_T) (t : Nat) (a1 : Nat) (M : mm_T) : im_I mi_N_contradicts_b 3 62 G M (sh_i M) (ff_N_contradicts_b t a1 M) 0 [some (.ref t), some (.ref a1)] [] M := by
  unfold ff_N_contradicts_b
  refine im_gd (fun hg => ?_)
  refine im_aload_n 0 0 rfl rfl ?_
  refine im_aload_n 1 1 rfl rfl ?_
  refine im_getI 2 2 rfl fd_N_47 (by decide +kernel) (fun x1 => ?_)
  refine im_ci (S := []) (fun _ hv => cpV (fr' := 2) (lo' := 41) (i := 3) (As := [.int x1]) (S := []) (a := a1) (c := 8) rfl lk_N_86 mw_R_initialsAt mv_R_initialsAt rfl ⟨by decide, rfl⟩ rfl rfl rfl (gd_some hv).1 (sp_R_initialsAt G hv)) (fun x2 => ?_)
  refine im_aload_n 4 8 rfl rfl ?_
  refine im_getI 5 9 rfl fd_N_37 (by decide +kernel) (fun x3 => ?_)
  refine im_ior 6 12 rfl ?_
  refine im_sipush 7 13 rfl rfl ?_
  refine im_iand 8 16 rfl ?_
  refine im_sipush 9 17 rfl rfl ?_
  refine im_ic_eq 10 20 27 rfl (by decide) ?_ ?_
  · refine im_iconst 13 27 rfl rfl ?_
    exact im_end rfl (wp_zreturn 14 28 (ty := .boolean) rfl (by first | exact nz_0 | exact nz_1) rfl)
  · refine im_iconst 11 23 rfl rfl ?_
    refine im_goto 12 24 28 rfl (by decide) ?_
    exact im_end rfl (wp_zreturn 14 28 (ty := .boolean) rfl (by first | exact nz_0 | exact nz_1) rfl)

theorem sp_N_contradicts_b (G : gl_T) {t : Nat} {a1 : Nat} {M : mm_T} {y : Int32} (h : ff_N_contradicts_b t a1 M = some y) : sp_S mi_N_contradicts_b 3 62 G [.ref t, .ref a1] M ((sh_i M) y).1 ((sh_i M) y).2 := sp_of mo_N_contradicts_b mw_N_contradicts_b (Or.inl (by decide +kernel)) rfl rfl (Or.inl rfl) (ip_N_contradicts_b G t a1 M y h)

set_option maxRecDepth 100000 in
set_option maxHeartbeats 4000000 in
theorem li_D_auditDifference_26 (G : gl_T) (M0 : mm_T) (p0 : Nat) (p1 : Nat) (p2 : Nat) : ∀ (fu : Nat) (q3 : Int32) (q4 : Int32) (N : mm_T), im_I mi_D_auditDifference 7 162 G M0 sw_i (lf_D_auditDifference_26 p0 p1 p2 fu q3 q4 N) 26 [some (.ref p0), some (.ref p1), some (.ref p2), some (.int q3), some (.int q4)] [] N := by
  intro fu
  induction fu with
  | zero => intro _ _ _; exact im_none
  | succ fu ih =>
    intro q3 q4 N
    show im_I mi_D_auditDifference 7 162 G M0 sw_i (lb_D_auditDifference_26 p0 p1 p2 (lf_D_auditDifference_26 p0 p1 p2 fu) q3 q4 N) 26 [some (.ref p0), some (.ref p1), some (.ref p2), some (.int q3), some (.int q4)] [] N
    unfold lb_D_auditDifference_26
    refine im_iload 15 26 rfl rfl ?_
    refine im_sipush 16 28 rfl rfl ?_
    refine im_ic_ge 17 31 99 rfl (by decide) ?_ ?_
    · refine im_iload_n 51 99 rfl rfl ?_
      exact im_end rfl (wp_ireturn 52 100 rfl rfl)
    · refine im_aload_n 18 34 rfl rfl ?_
      refine im_getR 19 35 rfl fd_D_79 (by decide +kernel) (fun x5 => ?_)
      refine im_getI 20 38 rfl fd_D_307 (by decide +kernel) (fun x6 => ?_)
      refine im_if_ne 21 41 99 rfl (by decide) ?_ ?_
      · refine im_iload_n 51 99 rfl rfl ?_
        exact im_end rfl (wp_ireturn 52 100 rfl rfl)
      · refine im_iload_n 22 44 rfl rfl ?_
        refine im_aload_n 23 45 rfl rfl ?_
        refine im_getR 24 46 rfl fd_D_79 (by decide +kernel) (fun x7 => ?_)
        refine im_aload_n 25 49 rfl rfl ?_
        refine im_ci (S := [.int q3]) (fun _ hv => cpV (fr' := 4) (lo' := 85) (i := 26) (As := [.ref p1]) (S := [.int q3]) (a := x7) (c := 5) rfl lk_D_326 mw_N_contradicts_a mv_N_contradicts_a rfl ⟨by decide, rfl⟩ rfl rfl rfl (gd_some hv).1 (sp_N_contradicts_a G hv)) (fun x8 => ?_)
        refine im_jp (fun j61 => ∀ (x9 : Int32), im_I mi_D_auditDifference 7 162 G M0 sw_i (j61 x9) 61 [some (.ref p0), some (.ref p1), some (.ref p2), none, some (.int q4)] [.int x9, .int q3] N) ?_ (fun j61 hj61 => ?_)
        · intro x9
          show im_I mi_D_auditDifference 7 162 G M0 sw_i (_) 61 [some (.ref p0), some (.ref p1), some (.ref p2), none, some (.int q4)] [.int x9, .int q3] N
          refine im_iadd 31 61 rfl ?_
          refine im_letI (fun x10 => ?_)
          refine im_istore_n 32 62 [some (.ref p0), some (.ref p1), some (.ref p2), some (.int x10), some (.int q4)] rfl rfl rfl ?_
          refine im_iload_n 33 63 rfl rfl ?_
          refine im_aload_n 34 64 rfl rfl ?_
          refine im_getR 35 65 rfl fd_D_79 (by decide +kernel) (fun x11 => ?_)
          refine im_aload_n 36 68 rfl rfl ?_
          refine im_ci (S := [.int x10]) (fun _ hv => cpV (fr' := 3) (lo' := 62) (i := 37) (As := [.ref p2]) (S := [.int x10]) (a := x11) (c := 5) rfl lk_D_330 mw_N_contradicts_b mv_N_contradicts_b rfl ⟨by decide, rfl⟩ rfl rfl rfl (gd_some hv).1 (sp_N_contradicts_b G hv)) (fun x12 => ?_)
          refine im_jp (fun j80 => ∀ (x13 : Int32), im_I mi_D_auditDifference 7 162 G M0 sw_i (j80 x13) 80 [some (.ref p0), some (.ref p1), some (.ref p2), none, some (.int q4)] [.int x13, .int x10] N) ?_ (fun j80 hj80 => ?_)
          · intro x13
            show im_I mi_D_auditDifference 7 162 G M0 sw_i (_) 80 [some (.ref p0), some (.ref p1), some (.ref p2), none, some (.int q4)] [.int x13, .int x10] N
            refine im_iadd 42 80 rfl ?_
            refine im_letI (fun x14 => ?_)
            refine im_istore_n 43 81 [some (.ref p0), some (.ref p1), some (.ref p2), some (.int x14), some (.int q4)] rfl rfl rfl ?_
            refine im_aload_n 44 82 rfl rfl ?_
            refine im_getR 45 83 rfl fd_D_79 (by decide +kernel) (fun x15 => ?_)
            refine im_aload_n 46 86 rfl rfl ?_
            refine im_getR 47 87 rfl fd_D_87 (by decide +kernel) (fun x16 => ?_)
            refine im_cWv (S := []) (fun _ hv => cpV (fr' := 4) (lo' := 88) (i := 48) (As := [.ref x16]) (S := []) (a := x15) (c := 5) rfl lk_D_333 mw_N_step mv_N_step rfl ⟨by decide, rfl⟩ rfl rfl rfl (gd_some hv).1 (sp_N_step G hv)) (fun M4 => ?_)
            refine im_iincL 49 93 (fun x17 => [some (.ref p0), some (.ref p1), some (.ref p2), some (.int x14), some (.int x17)]) rfl rfl rfl rfl (fun _ => rfl) (fun x17 => ?_)
            refine im_goto 50 96 26 rfl (by decide) ?_
            exact im_less _ (by simp [lv_le]) (ih x14 x17 M4)
          refine im_if_eq 38 72 79 rfl (by decide) ?_ ?_
          · refine im_iconst 41 79 rfl rfl ?_
            exact im_less _ (by simp [lv_le]) (hj80 (0 : Int32))
          · refine im_iconst 39 75 rfl rfl ?_
            refine im_goto 40 76 80 rfl (by decide) ?_
            exact im_less _ (by simp [lv_le]) (hj80 (1 : Int32))
        refine im_if_eq 27 53 60 rfl (by decide) ?_ ?_
        · refine im_iconst 30 60 rfl rfl ?_
          exact im_less _ (by simp [lv_le]) (hj61 (0 : Int32))
        · refine im_iconst 28 56 rfl rfl ?_
          refine im_goto 29 57 61 rfl (by decide) ?_
          exact im_less _ (by simp [lv_le]) (hj61 (1 : Int32))

set_option maxRecDepth 100000 in
set_option maxHeartbeats 4000000 in
theorem ip_D_auditDifference (G : gl_T) (t : Nat) (M : mm_T) : im_I mi_D_auditDifference 7 162 G M sw_i (ff_D_auditDifference t M) 0 [some (.ref t), none, none, none, none] [] M := by
  unfold ff_D_auditDifference
  refine im_gd (fun hg => ?_)
  refine im_aload_n 0 0 rfl rfl ?_
  refine im_cWr (S := []) (fun _ _ hv => cpV (fr' := 6) (lo' := 142) (i := 1) (As := []) (S := []) (a := t) (c := 10) rfl lk_D_284 mw_D_constants mv_D_constants rfl ⟨by decide, rfl⟩ rfl rfl rfl (gd_some hv).1 (sp_D_constants G hv)) (fun x1 M1 => ?_)
  refine im_astore_n 2 4 [some (.ref t), some (.ref x1), none, none, none] rfl rfl rfl ?_
  refine im_aload_n 3 5 rfl rfl ?_
  refine im_cWr (S := []) (fun _ _ hv => cpV (fr' := 6) (lo' := 138) (i := 4) (As := []) (S := []) (a := t) (c := 10) rfl lk_D_184 mw_D_reaching mv_D_reaching rfl ⟨by decide, rfl⟩ rfl rfl rfl (gd_some hv).1 (sp_D_reaching G hv)) (fun x2 M2 => ?_)
  refine im_astore_n 5 9 [some (.ref t), some (.ref x1), some (.ref x2), none, none] rfl rfl rfl ?_
  refine im_iconst 6 10 rfl rfl ?_
  refine im_istore_n 7 11 [some (.ref t), some (.ref x1), some (.ref x2), some (.int (0 : Int32)), none] rfl rfl rfl ?_
  refine im_aload_n 8 12 rfl rfl ?_
  refine im_getR 9 13 rfl fd_D_79 (by decide +kernel) (fun x3 => ?_)
  refine im_aload_n 10 16 rfl rfl ?_
  refine im_getR 11 17 rfl fd_D_87 (by decide +kernel) (fun x4 => ?_)
  refine im_cWv (S := []) (fun _ hv => cpV (fr' := 3) (lo' := 63) (i := 12) (As := [.ref x4]) (S := []) (a := x3) (c := 5) rfl lk_D_323 mw_N_start mv_N_start rfl ⟨by decide, rfl⟩ rfl rfl rfl (gd_some hv).1 (sp_N_start G hv)) (fun M3 => ?_)
  refine im_iconst 13 23 rfl rfl ?_
  refine im_istore 14 24 [some (.ref t), some (.ref x1), some (.ref x2), some (.int (0 : Int32)), some (.int (0 : Int32))] rfl rfl rfl ?_
  refine im_less [some (.ref t), some (.ref x1), some (.ref x2), some (.int (0 : Int32)), some (.int (0 : Int32))] (by simp [lv_le]) ?_
  exact li_D_auditDifference_26 G M t x1 x2 fu_L (0 : Int32) (0 : Int32) M3

theorem sp_D_auditDifference (G : gl_T) {t : Nat} {M : mm_T} {y : Int32 × mm_T} (h : ff_D_auditDifference t M = some y) : sp_S mi_D_auditDifference 7 162 G [.ref t] M (sw_i y).1 (sw_i y).2 := sp_of mo_D_auditDifference mw_D_auditDifference (Or.inl (by decide +kernel)) rfl rfl (Or.inl rfl) (ip_D_auditDifference G t M y h)

set_option maxRecDepth 100000 in
set_option maxHeartbeats 4000000 in
theorem li_P_countDefinitions_4 (G : gl_T) (p0 : Nat) (M : mm_T) : ∀ (fu : Nat) (q1 : Int32) (q2 : Int32), im_I mi_P_countDefinitions 4 84 G M (sh_i M) (lf_P_countDefinitions_4 p0 M fu q1 q2) 4 [some (.ref p0), some (.int q1), some (.int q2)] [] M := by
  intro fu
  induction fu with
  | zero => intro _ _; exact im_none
  | succ fu ih =>
    intro q1 q2
    show im_I mi_P_countDefinitions 4 84 G M (sh_i M) (lb_P_countDefinitions_4 p0 M (lf_P_countDefinitions_4 p0 M fu) q1 q2) 4 [some (.ref p0), some (.int q1), some (.int q2)] [] M
    unfold lb_P_countDefinitions_4
    refine im_iload_n 4 4 rfl rfl ?_
    refine im_aload_n 5 5 rfl rfl ?_
    refine im_getI 6 6 rfl fd_P_34 (by decide +kernel) (fun x1 => ?_)
    refine im_ic_ge 7 9 35 rfl (by decide) ?_ ?_
    · refine im_iload_n 21 35 rfl rfl ?_
      exact im_end rfl (wp_ireturn 22 36 rfl rfl)
    · refine im_iload_n 8 12 rfl rfl ?_
      refine im_aload_n 9 13 rfl rfl ?_
      refine im_iload_n 10 14 rfl rfl ?_
      refine im_ci (S := [.int q1]) (fun _ hv => cpV (fr' := 3) (lo' := 62) (i := 11) (As := [.int q2]) (S := [.int q1]) (a := p0) (c := 7) rfl lk_P_45 mw_P_definedAt mv_P_definedAt rfl ⟨by decide, rfl⟩ rfl rfl rfl (gd_some hv).1 (sp_P_definedAt G hv)) (fun x2 => ?_)
      refine im_iconst 12 18 rfl rfl ?_
      refine im_jp (fun j27 => ∀ (x3 : Int32), im_I mi_P_countDefinitions 4 84 G M (sh_i M) (j27 x3) 27 [some (.ref p0), none, some (.int q2)] [.int x3, .int q1] M) ?_ (fun j27 hj27 => ?_)
      · intro x3
        show im_I mi_P_countDefinitions 4 84 G M (sh_i M) (_) 27 [some (.ref p0), none, some (.int q2)] [.int x3, .int q1] M
        refine im_iadd 17 27 rfl ?_
        refine im_letI (fun x4 => ?_)
        refine im_istore_n 18 28 [some (.ref p0), some (.int x4), some (.int q2)] rfl rfl rfl ?_
        refine im_iincL 19 29 (fun x5 => [some (.ref p0), some (.int x4), some (.int x5)]) rfl rfl rfl rfl (fun _ => rfl) (fun x5 => ?_)
        refine im_goto 20 32 4 rfl (by decide) ?_
        exact im_less _ (by simp [lv_le]) (ih x4 x5)
      refine im_ic_ne 13 19 26 rfl (by decide) ?_ ?_
      · refine im_iconst 16 26 rfl rfl ?_
        exact im_less _ (by simp [lv_le]) (hj27 (1 : Int32))
      · refine im_iconst 14 22 rfl rfl ?_
        refine im_goto 15 23 27 rfl (by decide) ?_
        exact im_less _ (by simp [lv_le]) (hj27 (0 : Int32))

set_option maxRecDepth 100000 in
set_option maxHeartbeats 4000000 in
theorem ip_P_countDefinitions (G : gl_T) (t : Nat) (M : mm_T) : im_I mi_P_countDefinitions 4 84 G M (sh_i M) (ff_P_countDefinitions t M) 0 [some (.ref t), none, none] [] M := by
  unfold ff_P_countDefinitions
  refine im_gd (fun hg => ?_)
  refine im_iconst 0 0 rfl rfl ?_
  refine im_istore_n 1 1 [some (.ref t), some (.int (0 : Int32)), none] rfl rfl rfl ?_
  refine im_iconst 2 2 rfl rfl ?_
  refine im_istore_n 3 3 [some (.ref t), some (.int (0 : Int32)), some (.int (0 : Int32))] rfl rfl rfl ?_
  refine im_less [some (.ref t), some (.int (0 : Int32)), some (.int (0 : Int32))] (by simp [lv_le]) ?_
  exact li_P_countDefinitions_4 G t M fu_L (0 : Int32) (0 : Int32)

theorem sp_P_countDefinitions (G : gl_T) {t : Nat} {M : mm_T} {y : Int32} (h : ff_P_countDefinitions t M = some y) : sp_S mi_P_countDefinitions 4 84 G [.ref t] M ((sh_i M) y).1 ((sh_i M) y).2 := sp_of mo_P_countDefinitions mw_P_countDefinitions (Or.inl (by decide +kernel)) rfl rfl (Or.inl rfl) (ip_P_countDefinitions G t M y h)

set_option maxRecDepth 100000 in
set_option maxHeartbeats 4000000 in
theorem ip_D_deadShare (G : gl_T) (t : Nat) (M : mm_T) : im_I mi_D_deadShare 7 156 G M sw_f (ff_D_deadShare t M) 0 [some (.ref t), none] [] M := by
  unfold ff_D_deadShare
  refine im_gd (fun hg => ?_)
  refine im_aload_n 0 0 rfl rfl ?_
  refine im_getR 1 1 rfl fd_D_87 (by decide +kernel) (fun x1 => ?_)
  refine im_ci (S := []) (fun _ hv => cpV (fr' := 4) (lo' := 84) (i := 2) (As := []) (S := []) (a := x1) (c := 7) rfl lk_D_336 mw_P_countDefinitions mv_P_countDefinitions rfl ⟨by decide, rfl⟩ rfl rfl rfl (gd_some hv).1 (sp_P_countDefinitions G hv)) (fun x2 => ?_)
  refine im_istore_n 3 7 [some (.ref t), some (.int x2)] rfl rfl rfl ?_
  refine im_iload_n 4 8 rfl rfl ?_
  refine im_if_ne 5 9 14 rfl (by decide) ?_ ?_
  · refine im_aload_n 8 14 rfl rfl ?_
    refine im_cWr (S := []) (fun _ _ hv => cpV (fr' := 6) (lo' := 136) (i := 9) (As := []) (S := []) (a := t) (c := 10) rfl lk_D_225 mw_D_liveness mv_D_liveness rfl ⟨by decide, rfl⟩ rfl rfl rfl (gd_some hv).1 (sp_D_liveness G hv)) (fun x3 M1 => ?_)
    refine im_aload_n 10 18 rfl rfl ?_
    refine im_getR 11 19 rfl fd_D_87 (by decide +kernel) (fun x4 => ?_)
    refine im_ci (S := []) (fun _ hv => cpV (fr' := 5) (lo' := 107) (i := 12) (As := [.ref x4]) (S := []) (a := x3) (c := 4) rfl lk_D_242 mw_L_countDead mv_L_countDead rfl ⟨by decide, rfl⟩ rfl rfl rfl (gd_some hv).1 (sp_L_countDead G hv)) (fun x5 => ?_)
    refine im_i2f 13 25 rfl ?_
    refine im_iload_n 14 26 rfl rfl ?_
    refine im_i2f 15 27 rfl ?_
    refine im_fdiv 16 28 rfl (fun x6 => ?_)
    exact im_end rfl (wp_freturn 17 29 rfl rfl)
  · refine im_fconst0 6 12 rfl ?_
    exact im_end rfl (wp_freturn 7 13 rfl rfl)

theorem sp_D_deadShare (G : gl_T) {t : Nat} {M : mm_T} {y : UInt32 × mm_T} (h : ff_D_deadShare t M = some y) : sp_S mi_D_deadShare 7 156 G [.ref t] M (sw_f y).1 (sw_f y).2 := sp_of mo_D_deadShare mw_D_deadShare (Or.inl (by decide +kernel)) rfl rfl (Or.inl rfl) (ip_D_deadShare G t M y h)

set_option maxRecDepth 100000 in
set_option maxHeartbeats 4000000 in
theorem li_L_sumLive_4 (G : gl_T) (p0 : Nat) (p1 : Nat) (M : mm_T) : ∀ (fu : Nat) (q2 : Int32) (q3 : Int32), im_I mi_L_sumLive 2 41 G M (sh_i M) (lf_L_sumLive_4 p0 p1 M fu q2 q3) 4 [some (.ref p0), some (.ref p1), some (.int q2), some (.int q3)] [] M := by
  intro fu
  induction fu with
  | zero => intro _ _; exact im_none
  | succ fu ih =>
    intro q2 q3
    show im_I mi_L_sumLive 2 41 G M (sh_i M) (lb_L_sumLive_4 p0 p1 M (lf_L_sumLive_4 p0 p1 M fu) q2 q3) 4 [some (.ref p0), some (.ref p1), some (.int q2), some (.int q3)] [] M
    unfold lb_L_sumLive_4
    refine im_iload_n 4 4 rfl rfl ?_
    refine im_aload_n 5 5 rfl rfl ?_
    refine im_getI 6 6 rfl fd_L_49 (by decide +kernel) (fun x1 => ?_)
    refine im_ic_ge 7 9 32 rfl (by decide) ?_ ?_
    · refine im_iload_n 18 32 rfl rfl ?_
      exact im_end rfl (wp_ireturn 19 33 rfl rfl)
    · refine im_iload_n 8 12 rfl rfl ?_
      refine im_aload_n 9 13 rfl rfl ?_
      refine im_getR 10 14 rfl fd_L_9 (by decide +kernel) (fun x2 => ?_)
      refine im_iload_n 11 17 rfl rfl ?_
      refine im_ci (S := [.int q2]) (fun _ hv => cpS (fr' := 1) (lo' := 20) (i := 12) (As := [.ref x2, .int q3]) (S := [.int q2]) rfl lk_L_37 mw_D_at_a mv_D_at_a rfl rfl rfl rfl (sp_D_at_a G hv)) (fun x3 => ?_)
      refine im_ci (S := [.int q2]) (fun _ hv => cpS (fr' := 1) (lo' := 20) (i := 13) (As := [.int x3]) (S := [.int q2]) rfl lk_L_56 mw_JI_bitCount mv_JI_bitCount rfl rfl rfl rfl (sp_JI_bitCount G hv)) (fun x4 => ?_)
      refine im_iadd 14 24 rfl ?_
      refine im_letI (fun x5 => ?_)
      refine im_istore_n 15 25 [some (.ref p0), some (.ref p1), some (.int x5), some (.int q3)] rfl rfl rfl ?_
      refine im_iincL 16 26 (fun x6 => [some (.ref p0), some (.ref p1), some (.int x5), some (.int x6)]) rfl rfl rfl rfl (fun _ => rfl) (fun x6 => ?_)
      refine im_goto 17 29 4 rfl (by decide) ?_
      exact im_less _ (by simp [lv_le]) (ih x5 x6)

set_option maxRecDepth 100000 in
set_option maxHeartbeats 4000000 in
theorem ip_L_sumLive (G : gl_T) (t : Nat) (a1 : Nat) (M : mm_T) : im_I mi_L_sumLive 2 41 G M (sh_i M) (ff_L_sumLive t a1 M) 0 [some (.ref t), some (.ref a1), none, none] [] M := by
  unfold ff_L_sumLive
  refine im_gd (fun hg => ?_)
  refine im_iconst 0 0 rfl rfl ?_
  refine im_istore_n 1 1 [some (.ref t), some (.ref a1), some (.int (0 : Int32)), none] rfl rfl rfl ?_
  refine im_iconst 2 2 rfl rfl ?_
  refine im_istore_n 3 3 [some (.ref t), some (.ref a1), some (.int (0 : Int32)), some (.int (0 : Int32))] rfl rfl rfl ?_
  refine im_less [some (.ref t), some (.ref a1), some (.int (0 : Int32)), some (.int (0 : Int32))] (by simp [lv_le]) ?_
  exact li_L_sumLive_4 G t a1 M fu_L (0 : Int32) (0 : Int32)

theorem sp_L_sumLive (G : gl_T) {t : Nat} {a1 : Nat} {M : mm_T} {y : Int32} (h : ff_L_sumLive t a1 M = some y) : sp_S mi_L_sumLive 2 41 G [.ref t, .ref a1] M ((sh_i M) y).1 ((sh_i M) y).2 := sp_of mo_L_sumLive mw_L_sumLive (Or.inl (by decide +kernel)) rfl rfl (Or.inl rfl) (ip_L_sumLive G t a1 M y h)

set_option maxRecDepth 100000 in
set_option maxHeartbeats 4000000 in
theorem ip_D_meanLive (G : gl_T) (t : Nat) (M : mm_T) : im_I mi_D_meanLive 7 156 G M sw_d (ff_D_meanLive t M) 0 [some (.ref t)] [] M := by
  unfold ff_D_meanLive
  refine im_gd (fun hg => ?_)
  refine im_aload_n 0 0 rfl rfl ?_
  refine im_getR 1 1 rfl fd_D_87 (by decide +kernel) (fun x1 => ?_)
  refine im_getI 2 4 rfl fd_D_134 (by decide +kernel) (fun x2 => ?_)
  refine im_if_ne 3 7 12 rfl (by decide) ?_ ?_
  · refine im_aload_n 6 12 rfl rfl ?_
    refine im_cWr (S := []) (fun _ _ hv => cpV (fr' := 6) (lo' := 136) (i := 7) (As := []) (S := []) (a := t) (c := 10) rfl lk_D_225 mw_D_liveness mv_D_liveness rfl ⟨by decide, rfl⟩ rfl rfl rfl (gd_some hv).1 (sp_D_liveness G hv)) (fun x3 M1 => ?_)
    refine im_aload_n 8 16 rfl rfl ?_
    refine im_getR 9 17 rfl fd_D_87 (by decide +kernel) (fun x4 => ?_)
    refine im_ci (S := []) (fun _ hv => cpV (fr' := 2) (lo' := 41) (i := 10) (As := [.ref x4]) (S := []) (a := x3) (c := 4) rfl lk_D_339 mw_L_sumLive mv_L_sumLive rfl ⟨by decide, rfl⟩ rfl rfl rfl (gd_some hv).1 (sp_L_sumLive G hv)) (fun x5 => ?_)
    refine im_i2d 11 23 rfl ?_
    refine im_aload_n 12 24 rfl rfl ?_
    refine im_getR 13 25 rfl fd_D_87 (by decide +kernel) (fun x6 => ?_)
    refine im_getI 14 28 rfl fd_D_134 (by decide +kernel) (fun x7 => ?_)
    refine im_i2d 15 31 rfl ?_
    refine im_ddiv 16 32 rfl (fun x8 => ?_)
    exact im_end rfl (wp_dreturn 17 33 rfl rfl)
  · refine im_dconst0 4 10 rfl ?_
    exact im_end rfl (wp_dreturn 5 11 rfl rfl)

theorem sp_D_meanLive (G : gl_T) {t : Nat} {M : mm_T} {y : UInt64 × mm_T} (h : ff_D_meanLive t M = some y) : sp_S mi_D_meanLive 7 156 G [.ref t] M (sw_d y).1 (sw_d y).2 := sp_of mo_D_meanLive mw_D_meanLive (Or.inl (by decide +kernel)) rfl rfl (Or.inl rfl) (ip_D_meanLive G t M y h)

set_option maxRecDepth 100000 in
set_option maxHeartbeats 4000000 in
theorem ip_D_requirePosition (G : gl_T) (t : Nat) (a1 : Int32) (a2 : Int32) (M : mm_T) : im_I mi_D_requirePosition 6 90 G M (sx_v M) (ff_D_requirePosition t a1 a2 M) 0 [some (.ref t), some (.int a1), some (.int a2)] [] M := by
  unfold ff_D_requirePosition
  refine im_gd (fun hg => ?_)
  refine im_iload_n 0 0 rfl rfl ?_
  refine im_jp (fun j16 => im_I mi_D_requirePosition 6 90 G M (sx_v M) (j16) 16 [none, none, none] [] M) ?_ (fun j16 hj16 => ?_)
  · show im_I mi_D_requirePosition 6 90 G M (sx_v M) (_) 16 [none, none, none] [] M
    exact im_endX rfl (wp_throwW (i := 8) th_D_105_443_109 rfl rfl rfl rfl rfl rfl rfl rfl rfl rfl)
  refine im_if_lt 1 1 16 rfl (by decide) ?_ ?_
  · exact im_less _ (by simp [lv_le]) (hj16)
  · refine im_iload_n 2 4 rfl rfl ?_
    refine im_aload_n 3 5 rfl rfl ?_
    refine im_getR 4 6 rfl fd_D_87 (by decide +kernel) (fun x1 => ?_)
    refine im_iload_n 5 9 rfl rfl ?_
    refine im_ci (S := [.int a2]) (fun _ hv => cpV (fr' := 2) (lo' := 41) (i := 6) (As := [.int a1]) (S := [.int a2]) (a := x1) (c := 7) rfl lk_D_140 mw_P_sizeOf mv_P_sizeOf rfl ⟨by decide, rfl⟩ rfl rfl rfl (gd_some hv).1 (sp_P_sizeOf G hv)) (fun x2 => ?_)
    refine im_ic_le 7 13 27 rfl (by decide) ?_ ?_
    · exact im_end rfl (wp_return 13 27 rfl rfl)
    · exact im_less _ (by simp [lv_le]) (hj16)

theorem sp_D_requirePosition (G : gl_T) {t : Nat} {a1 : Int32} {a2 : Int32} {M : mm_T} {y : Option String} (h : ff_D_requirePosition t a1 a2 M = some y) : sp_S mi_D_requirePosition 6 90 G [.ref t, .int a1, .int a2] M ((sx_v M) y).1 ((sx_v M) y).2 := sp_of mo_D_requirePosition mw_D_requirePosition (Or.inl (by decide +kernel)) rfl rfl (Or.inl rfl) (ip_D_requirePosition G t a1 a2 M y h)

set_option maxRecDepth 100000 in
set_option maxHeartbeats 4000000 in
theorem ip_D_requireConstant (G : gl_T) (a1 : Int32) (M : mm_T) : im_I mi_D_requireConstant 6 90 G M (sx_v M) (ff_D_requireConstant a1 M) 0 [some (.int a1)] [] M := by
  unfold ff_D_requireConstant
  refine im_iload_n 0 0 rfl rfl ?_
  refine im_jp (fun j11 => im_I mi_D_requireConstant 6 90 G M (sx_v M) (j11) 11 [none] [] M) ?_ (fun j11 hj11 => ?_)
  · show im_I mi_D_requireConstant 6 90 G M (sx_v M) (_) 11 [none] [] M
    exact im_endX rfl (wp_throwW (i := 5) th_D_105_453_109 rfl rfl rfl rfl rfl rfl rfl rfl rfl rfl)
  refine im_if_lt 1 1 11 rfl (by decide) ?_ ?_
  · exact im_less _ (by simp [lv_le]) (hj11)
  · refine im_iload_n 2 4 rfl rfl ?_
    refine im_sipush 3 5 rfl rfl ?_
    refine im_ic_le 4 8 22 rfl (by decide) ?_ ?_
    · exact im_end rfl (wp_return 10 22 rfl rfl)
    · exact im_less _ (by simp [lv_le]) (hj11)

theorem sp_D_requireConstant (G : gl_T) {a1 : Int32} {M : mm_T} {y : Option String} (h : ff_D_requireConstant a1 M = some y) : sp_S mi_D_requireConstant 6 90 G [.int a1] M ((sx_v M) y).1 ((sx_v M) y).2 := sp_of mo_D_requireConstant mw_D_requireConstant (Or.inl (by decide +kernel)) rfl rfl (Or.inl rfl) (ip_D_requireConstant G a1 M y h)

set_option maxRecDepth 100000 in
set_option maxHeartbeats 4000000 in
theorem ip_D_requireRoom (G : gl_T) (t : Nat) (M : mm_T) : im_I mi_D_requireRoom 6 90 G M (sx_v M) (ff_D_requireRoom t M) 0 [some (.ref t)] [] M := by
  unfold ff_D_requireRoom
  refine im_gd (fun hg => ?_)
  refine im_aload_n 0 0 rfl rfl ?_
  refine im_getR 1 1 rfl fd_D_87 (by decide +kernel) (fun x1 => ?_)
  refine im_ci (S := []) (fun _ hv => cpV (fr' := 1) (lo' := 20) (i := 2) (As := []) (S := []) (a := x1) (c := 7) rfl lk_D_445 mw_P_isFull mv_P_isFull rfl ⟨by decide, rfl⟩ rfl rfl rfl (gd_some hv).1 (sp_P_isFull G hv)) (fun x2 => ?_)
  refine im_if_eq 3 7 21 rfl (by decide) ?_ ?_
  · exact im_end rfl (wp_return 9 21 rfl rfl)
  · exact im_endX rfl (wp_throwW (i := 4) th_D_94_449_98 rfl rfl rfl rfl rfl rfl rfl rfl rfl rfl)

theorem sp_D_requireRoom (G : gl_T) {t : Nat} {M : mm_T} {y : Option String} (h : ff_D_requireRoom t M = some y) : sp_S mi_D_requireRoom 6 90 G [.ref t] M ((sx_v M) y).1 ((sx_v M) y).2 := sp_of mo_D_requireRoom mw_D_requireRoom (Or.inl (by decide +kernel)) rfl rfl (Or.inl rfl) (ip_D_requireRoom G t M y h)

set_option maxRecDepth 100000 in
set_option maxHeartbeats 4000000 in
theorem ip_O_set (G : gl_T) (a1 : Int32) (a2 : Int32) (M : mm_T) : im_I mi_O_set 2 45 G M (sh_i M) (ff_O_set a1 a2 M) 0 [some (.int a1), some (.int a2)] [] M := by
  unfold ff_O_set
  refine im_iconst 0 0 rfl rfl ?_
  refine im_iload_n 1 1 rfl rfl ?_
  refine im_iconst 2 2 rfl rfl ?_
  refine im_iconst 3 3 rfl rfl ?_
  refine im_iconst 4 4 rfl rfl ?_
  refine im_iload_n 5 5 rfl rfl ?_
  refine im_ci (S := []) (fun _ hv => cpS (fr' := 1) (lo' := 20) (i := 6) (As := [.int (0 : Int32), .int a1, .int (0 : Int32), .int (0 : Int32), .int (0 : Int32), .int a2]) (S := []) rfl lk_O_9 mw_O_pack mv_O_pack rfl rfl rfl rfl (sp_O_pack G hv)) (fun x1 => ?_)
  exact im_end rfl (wp_ireturn 7 9 rfl rfl)

theorem sp_O_set (G : gl_T) {a1 : Int32} {a2 : Int32} {M : mm_T} {y : Int32} (h : ff_O_set a1 a2 M = some y) : sp_S mi_O_set 2 45 G [.int a1, .int a2] M ((sh_i M) y).1 ((sh_i M) y).2 := sp_of mo_O_set mw_O_set (Or.inl (by decide +kernel)) rfl rfl (Or.inl rfl) (ip_O_set G a1 a2 M y h)

set_option maxRecDepth 100000 in
set_option maxHeartbeats 4000000 in
theorem ip_P_startOf (G : gl_T) (t : Nat) (a1 : Int32) (M : mm_T) : im_I mi_P_startOf 2 41 G M (sh_i M) (ff_P_startOf t a1 M) 0 [some (.ref t), some (.int a1)] [] M := by
  unfold ff_P_startOf
  refine im_gd (fun hg => ?_)
  refine im_aload_n 0 0 rfl rfl ?_
  refine im_getR 1 1 rfl fd_P_15 (by decide +kernel) (fun x1 => ?_)
  refine im_iload_n 2 4 rfl rfl ?_
  refine im_ci (S := []) (fun _ hv => cpS (fr' := 1) (lo' := 20) (i := 3) (As := [.ref x1, .int a1]) (S := []) rfl lk_P_41 mw_D_at_a mv_D_at_a rfl rfl rfl rfl (sp_D_at_a G hv)) (fun x2 => ?_)
  exact im_end rfl (wp_ireturn 4 8 rfl rfl)

theorem sp_P_startOf (G : gl_T) {t : Nat} {a1 : Int32} {M : mm_T} {y : Int32} (h : ff_P_startOf t a1 M = some y) : sp_S mi_P_startOf 2 41 G [.ref t, .int a1] M ((sh_i M) y).1 ((sh_i M) y).2 := sp_of mo_P_startOf mw_P_startOf (Or.inl (by decide +kernel)) rfl rfl (Or.inl rfl) (ip_P_startOf G t a1 M y h)

set_option maxRecDepth 100000 in
set_option maxHeartbeats 4000000 in
theorem ip_H_keep (G : gl_T) (t : Nat) (a1 : Nat) (M : mm_T) : im_I mi_H_keep 3 63 G M sw_v (ff_H_keep t a1 M) 0 [some (.ref t), some (.ref a1), none] [] M := by
  unfold ff_H_keep
  refine im_gd (fun hg => ?_)
  refine im_aload_n 0 0 rfl rfl ?_
  refine im_getI 1 1 rfl fd_H_21 (by decide +kernel) (fun x1 => ?_)
  refine im_jp (fun j24 => ∀  (M1 : mm_T), im_I mi_H_keep 3 63 G M sw_v (j24 M1) 24 [some (.ref t), some (.ref a1), none] [] M1) ?_ (fun j24 hj24 => ?_)
  · intro M1
    show im_I mi_H_keep 3 63 G M sw_v (_) 24 [some (.ref t), some (.ref a1), none] [] M1
    refine im_aload_n 12 24 rfl rfl ?_
    refine im_getR 13 25 rfl fd_H_11 (by decide +kernel) (fun x2 => ?_)
    refine im_aload_n 14 28 rfl rfl ?_
    refine im_getI 15 29 rfl fd_H_21 (by decide +kernel) (fun x3 => ?_)
    refine im_aaload 16 32 rfl (fun x4 => ?_)
    refine im_astore_n 17 33 [some (.ref t), some (.ref a1), some (.ref x4)] rfl rfl rfl ?_
    refine im_aload_n 18 34 rfl rfl ?_
    refine im_jp (fun j56 => ∀ (x5 : Nat) (M2 : mm_T), im_I mi_H_keep 3 63 G M sw_v (j56 x5 M2) 56 [some (.ref t), some (.ref a1), some (.ref x5)] [] M2) ?_ (fun j56 hj56 => ?_)
    · intro x5 M2
      show im_I mi_H_keep 3 63 G M sw_v (_) 56 [some (.ref t), some (.ref a1), some (.ref x5)] [] M2
      refine im_aload_n 30 56 rfl rfl ?_
      refine im_aload_n 31 57 rfl rfl ?_
      refine im_cWv (S := []) (fun _ hv => cpV (fr' := 2) (lo' := 42) (i := 32) (As := [.ref a1]) (S := []) (a := x5) (c := 7) rfl lk_H_25 mw_P_copyFrom mv_P_copyFrom rfl ⟨by decide, rfl⟩ rfl rfl rfl (gd_some hv).1 (sp_P_copyFrom G hv)) (fun M3 => ?_)
      refine im_aload_n 33 61 rfl rfl ?_
      refine im_aload_n 34 62 rfl rfl ?_
      refine im_getI 35 63 rfl fd_H_21 (by decide +kernel) (fun x6 => ?_)
      refine im_iconst 36 66 rfl rfl ?_
      refine im_iadd 37 67 rfl ?_
      refine im_bipush 38 68 rfl rfl ?_
      refine im_jp (fun j83 => ∀ (x7 : Int32), im_I mi_H_keep 3 63 G M sw_v (j83 x7) 83 [some (.ref t), none, none] [.int x7, .ref t] M3) ?_ (fun j83 hj83 => ?_)
      · intro x7
        show im_I mi_H_keep 3 63 G M sw_v (_) 83 [some (.ref t), none, none] [.int x7, .ref t] M3
        refine im_putI 46 83 rfl fd_H_21 (Or.inl (by decide +kernel)) (by decide +kernel) (fun M4 => ?_)
        refine im_aload_n 47 86 rfl rfl ?_
        refine im_aload_n 48 87 rfl rfl ?_
        refine im_getI 49 88 rfl fd_H_17 (by decide +kernel) (fun x8 => ?_)
        refine im_bipush 50 91 rfl rfl ?_
        refine im_jp (fun j107 => ∀ (x9 : Int32), im_I mi_H_keep 3 63 G M sw_v (j107 x9) 107 [none, none, none] [.int x9, .ref t] M4) ?_ (fun j107 hj107 => ?_)
        · intro x9
          show im_I mi_H_keep 3 63 G M sw_v (_) 107 [none, none, none] [.int x9, .ref t] M4
          refine im_putI 58 107 rfl fd_H_17 (Or.inl (by decide +kernel)) (by decide +kernel) (fun M5 => ?_)
          exact im_end rfl (wp_return 59 110 rfl rfl)
        refine im_ic_ge 51 93 105 rfl (by decide) ?_ ?_
        · refine im_bipush 57 105 rfl rfl ?_
          exact im_less _ (by simp [lv_le]) (hj107 (6 : Int32))
        · refine im_aload_n 52 96 rfl rfl ?_
          refine im_getI 53 97 rfl fd_H_17 (by decide +kernel) (fun x10 => ?_)
          refine im_iconst 54 100 rfl rfl ?_
          refine im_iadd 55 101 rfl ?_
          refine im_goto 56 102 107 rfl (by decide) ?_
          exact im_less _ (by simp [lv_le]) (hj107 ((x10 + (1 : Int32))))
      refine im_ic_ge 39 70 82 rfl (by decide) ?_ ?_
      · refine im_iconst 45 82 rfl rfl ?_
        exact im_less _ (by simp [lv_le]) (hj83 (0 : Int32))
      · refine im_aload_n 40 73 rfl rfl ?_
        refine im_getI 41 74 rfl fd_H_21 (by decide +kernel) (fun x11 => ?_)
        refine im_iconst 42 77 rfl rfl ?_
        refine im_iadd 43 78 rfl ?_
        refine im_goto 44 79 83 rfl (by decide) ?_
        exact im_less _ (by simp [lv_le]) (hj83 ((x11 + (1 : Int32))))
    refine im_ifnonnull 19 35 56 rfl (by decide) ?_ ?_
    · exact im_less _ (by simp [lv_le]) (hj56 x4 M1)
    · refine im_new 20 38 rfl nw_H_9 (fun x12 M6 => ?_)
      refine im_dup 21 41 rfl rfl ?_
      refine im_cWv (S := [.ref x12]) (fun _ hv => cpI (fr' := 1) (lo' := 20) (i := 22) (As := []) (S := [.ref x12]) (a := x12) rfl lk_H_24 mw_P_init mv_P_init rfl ⟨rfl, rfl⟩ rfl rfl rfl (gd_in (gd_some hv).1 (by decide)) (sp_P_init G hv)) (fun M7 => ?_)
      refine im_astore_n 23 45 [some (.ref t), some (.ref a1), some (.ref x12)] rfl rfl rfl ?_
      refine im_aload_n 24 46 rfl rfl ?_
      refine im_getR 25 47 rfl fd_H_11 (by decide +kernel) (fun x13 => ?_)
      refine im_aload_n 26 50 rfl rfl ?_
      refine im_getI 27 51 rfl fd_H_21 (by decide +kernel) (fun x14 => ?_)
      refine im_aload_n 28 54 rfl rfl ?_
      refine im_aastore 29 55 rfl (fun M8 => ?_)
      exact im_less _ (by simp [lv_le]) (hj56 x12 M8)
  refine im_jp (fun j19 => im_I mi_H_keep 3 63 G M sw_v (j19) 19 [some (.ref t), some (.ref a1), none] [] M) ?_ (fun j19 hj19 => ?_)
  · show im_I mi_H_keep 3 63 G M sw_v (_) 19 [some (.ref t), some (.ref a1), none] [] M
    refine im_aload_n 9 19 rfl rfl ?_
    refine im_iconst 10 20 rfl rfl ?_
    refine im_putI 11 21 rfl fd_H_21 (Or.inl (by decide +kernel)) (by decide +kernel) (fun M9 => ?_)
    exact im_less _ (by simp [lv_le]) (hj24 M9)
  refine im_if_lt 2 4 19 rfl (by decide) ?_ ?_
  · exact im_less _ (by simp [lv_le]) (hj19)
  · refine im_aload_n 3 7 rfl rfl ?_
    refine im_getI 4 8 rfl fd_H_21 (by decide +kernel) (fun x15 => ?_)
    refine im_aload_n 5 11 rfl rfl ?_
    refine im_getR 6 12 rfl fd_H_11 (by decide +kernel) (fun x16 => ?_)
    refine im_arraylength 7 15 rfl (fun x17 => ?_)
    refine im_ic_lt 8 16 24 rfl (by decide) ?_ ?_
    · exact im_less _ (by simp [lv_le]) (hj24 M)
    · exact im_less _ (by simp [lv_le]) (hj19)

theorem sp_H_keep (G : gl_T) {t : Nat} {a1 : Nat} {M : mm_T} {y : mm_T} (h : ff_H_keep t a1 M = some y) : sp_S mi_H_keep 3 63 G [.ref t, .ref a1] M (sw_v y).1 (sw_v y).2 := sp_of mo_H_keep mw_H_keep (Or.inl (by decide +kernel)) rfl rfl (Or.inl rfl) (ip_H_keep G t a1 M y h)

set_option maxRecDepth 100000 in
set_option maxHeartbeats 4000000 in
theorem li_P_moveStarts_4 (G : gl_T) (M0 : mm_T) (p0 : Nat) (p2 : Int32) : ∀ (fu : Nat) (q3 : Int32) (N : mm_T), im_I mi_P_moveStarts 2 42 G M0 sw_v (lf_P_moveStarts_4 p0 p2 fu q3 N) 4 [some (.ref p0), none, some (.int p2), some (.int q3)] [] N := by
  intro fu
  induction fu with
  | zero => intro _ _; exact im_none
  | succ fu ih =>
    intro q3 N
    show im_I mi_P_moveStarts 2 42 G M0 sw_v (lb_P_moveStarts_4 p0 p2 (lf_P_moveStarts_4 p0 p2 fu) q3 N) 4 [some (.ref p0), none, some (.int p2), some (.int q3)] [] N
    unfold lb_P_moveStarts_4
    refine im_iload_n 4 4 rfl rfl ?_
    refine im_aload_n 5 5 rfl rfl ?_
    refine im_getI 6 6 rfl fd_P_30 (by decide +kernel) (fun x2 => ?_)
    refine im_ic_gt 7 9 36 rfl (by decide) ?_ ?_
    · exact im_end rfl (wp_return 20 36 rfl rfl)
    · refine im_aload_n 8 12 rfl rfl ?_
      refine im_getR 9 13 rfl fd_P_15 (by decide +kernel) (fun x3 => ?_)
      refine im_iload_n 10 16 rfl rfl ?_
      refine im_aload_n 11 17 rfl rfl ?_
      refine im_getR 12 18 rfl fd_P_15 (by decide +kernel) (fun x4 => ?_)
      refine im_iload_n 13 21 rfl rfl ?_
      refine im_ci (S := [.int q3, .ref x3]) (fun _ hv => cpS (fr' := 1) (lo' := 20) (i := 14) (As := [.ref x4, .int q3]) (S := [.int q3, .ref x3]) rfl lk_P_41 mw_D_at_a mv_D_at_a rfl rfl rfl rfl (sp_D_at_a G hv)) (fun x5 => ?_)
      refine im_iload_n 15 25 rfl rfl ?_
      refine im_iadd 16 26 rfl ?_
      refine im_cWv (S := []) (fun _ hv => cpS (fr' := 1) (lo' := 20) (i := 17) (As := [.ref x3, .int q3, .int (x5 + p2)]) (S := []) rfl lk_P_49 mw_D_put_a mv_D_put_a rfl rfl rfl rfl (sp_D_put_a G hv)) (fun M1 => ?_)
      refine im_iincL 18 30 (fun x6 => [some (.ref p0), none, some (.int p2), some (.int x6)]) rfl rfl rfl rfl (fun _ => rfl) (fun x6 => ?_)
      refine im_goto 19 33 4 rfl (by decide) ?_
      exact im_less _ (by simp [lv_le]) (ih x6 M1)

set_option maxRecDepth 100000 in
set_option maxHeartbeats 4000000 in
theorem ip_P_moveStarts (G : gl_T) (t : Nat) (a1 : Int32) (a2 : Int32) (M : mm_T) : im_I mi_P_moveStarts 2 42 G M sw_v (ff_P_moveStarts t a1 a2 M) 0 [some (.ref t), some (.int a1), some (.int a2), none] [] M := by
  unfold ff_P_moveStarts
  refine im_gd (fun hg => ?_)
  refine im_iload_n 0 0 rfl rfl ?_
  refine im_iconst 1 1 rfl rfl ?_
  refine im_iadd 2 2 rfl ?_
  refine im_letI (fun x1 => ?_)
  refine im_istore_n 3 3 [some (.ref t), some (.int a1), some (.int a2), some (.int x1)] rfl rfl rfl ?_
  refine im_less [some (.ref t), none, some (.int a2), some (.int x1)] (by simp [lv_le]) ?_
  exact li_P_moveStarts_4 G M t a2 fu_L x1 M

theorem sp_P_moveStarts (G : gl_T) {t : Nat} {a1 : Int32} {a2 : Int32} {M : mm_T} {y : mm_T} (h : ff_P_moveStarts t a1 a2 M = some y) : sp_S mi_P_moveStarts 2 42 G [.ref t, .int a1, .int a2] M (sw_v y).1 (sw_v y).2 := sp_of mo_P_moveStarts mw_P_moveStarts (Or.inl (by decide +kernel)) rfl rfl (Or.inl rfl) (ip_P_moveStarts G t a1 a2 M y h)

set_option maxRecDepth 100000 in
set_option maxHeartbeats 4000000 in
theorem li_P_insert_6 (G : gl_T) (M0 : mm_T) (k0 : mm_T → Option (mm_T)) (p0 : Nat) (p1 : Int32) (p2 : Int32) (p3 : Int32) (hk0 : ∀ (N : mm_T), im_I mi_P_insert 3 65 G M0 sw_v (k0 N) 38 [some (.ref p0), some (.int p1), some (.int p2), some (.int p3), none] [] N) : ∀ (fu : Nat) (q4 : Int32) (N : mm_T), im_I mi_P_insert 3 65 G M0 sw_v (lf_P_insert_6 k0 p0 p1 p2 p3 fu q4 N) 6 [some (.ref p0), some (.int p1), some (.int p2), some (.int p3), some (.int q4)] [] N := by
  intro fu
  induction fu with
  | zero => intro _ _; exact im_none
  | succ fu ih =>
    intro q4 N
    show im_I mi_P_insert 3 65 G M0 sw_v (lb_P_insert_6 k0 p0 p1 p2 p3 (lf_P_insert_6 k0 p0 p1 p2 p3 fu) q4 N) 6 [some (.ref p0), some (.int p1), some (.int p2), some (.int p3), some (.int q4)] [] N
    unfold lb_P_insert_6
    refine im_iload 3 6 rfl rfl ?_
    refine im_iload_n 4 8 rfl rfl ?_
    refine im_ic_le 5 9 38 rfl (by decide) ?_ ?_
    · exact im_less _ (by simp [lv_le]) (hk0 N)
    · refine im_aload_n 6 12 rfl rfl ?_
      refine im_getR 7 13 rfl fd_P_9 (by decide +kernel) (fun x2 => ?_)
      refine im_iload 8 16 rfl rfl ?_
      refine im_aload_n 9 18 rfl rfl ?_
      refine im_getR 10 19 rfl fd_P_9 (by decide +kernel) (fun x3 => ?_)
      refine im_iload 11 22 rfl rfl ?_
      refine im_iconst 12 24 rfl rfl ?_
      refine im_isub 13 25 rfl ?_
      refine im_ci (S := [.int q4, .ref x2]) (fun _ hv => cpS (fr' := 1) (lo' := 20) (i := 14) (As := [.ref x3, .int (q4 - (1 : Int32))]) (S := [.int q4, .ref x2]) rfl lk_P_41 mw_D_at_a mv_D_at_a rfl rfl rfl rfl (sp_D_at_a G hv)) (fun x4 => ?_)
      refine im_cWv (S := []) (fun _ hv => cpS (fr' := 1) (lo' := 20) (i := 15) (As := [.ref x2, .int q4, .int x4]) (S := []) rfl lk_P_49 mw_D_put_a mv_D_put_a rfl rfl rfl rfl (sp_D_put_a G hv)) (fun M1 => ?_)
      refine im_iincL 16 32 (fun x5 => [some (.ref p0), some (.int p1), some (.int p2), some (.int p3), some (.int x5)]) rfl rfl rfl rfl (fun _ => rfl) (fun x5 => ?_)
      refine im_goto 17 35 6 rfl (by decide) ?_
      exact im_less _ (by simp [lv_le]) (ih x5 M1)

set_option maxRecDepth 100000 in
set_option maxHeartbeats 4000000 in
theorem ip_P_insert (G : gl_T) (t : Nat) (a1 : Int32) (a2 : Int32) (a3 : Int32) (M : mm_T) : im_I mi_P_insert 3 65 G M sw_v (ff_P_insert t a1 a2 a3 M) 0 [some (.ref t), some (.int a1), some (.int a2), some (.int a3), none] [] M := by
  unfold ff_P_insert
  refine im_gd (fun hg => ?_)
  refine im_aload_n 0 0 rfl rfl ?_
  refine im_getI 1 1 rfl fd_P_34 (by decide +kernel) (fun x1 => ?_)
  refine im_istore 2 4 [some (.ref t), some (.int a1), some (.int a2), some (.int a3), some (.int x1)] rfl rfl rfl ?_
  refine im_less [some (.ref t), some (.int a1), some (.int a2), some (.int a3), some (.int x1)] (by simp [lv_le]) ?_
  refine li_P_insert_6 G M _ t a1 a2 a3 ?_ fu_L x1 M
  · intro M2
    show im_I mi_P_insert 3 65 G M sw_v (_) 38 [some (.ref t), some (.int a1), some (.int a2), some (.int a3), none] [] M2
    refine im_aload_n 18 38 rfl rfl ?_
    refine im_getR 19 39 rfl fd_P_9 (by decide +kernel) (fun x6 => ?_)
    refine im_iload_n 20 42 rfl rfl ?_
    refine im_iload_n 21 43 rfl rfl ?_
    refine im_cWv (S := []) (fun _ hv => cpS (fr' := 1) (lo' := 20) (i := 22) (As := [.ref x6, .int a2, .int a3]) (S := []) rfl lk_P_49 mw_D_put_a mv_D_put_a rfl rfl rfl rfl (sp_D_put_a G hv)) (fun M3 => ?_)
    refine im_aload_n 23 47 rfl rfl ?_
    refine im_dup 24 48 rfl rfl ?_
    refine im_getI 25 49 rfl fd_P_34 (by decide +kernel) (fun x7 => ?_)
    refine im_iconst 26 52 rfl rfl ?_
    refine im_iadd 27 53 rfl ?_
    refine im_putI 28 54 rfl fd_P_34 (Or.inl (by decide +kernel)) (by decide +kernel) (fun M4 => ?_)
    refine im_aload_n 29 57 rfl rfl ?_
    refine im_iload_n 30 58 rfl rfl ?_
    refine im_iconst 31 59 rfl rfl ?_
    refine im_cWv (S := []) (fun _ hv => cpV (fr' := 2) (lo' := 42) (i := 32) (As := [.int a1, .int (1 : Int32)]) (S := []) (a := t) (c := 7) rfl lk_P_53 mw_P_moveStarts mv_P_moveStarts rfl ⟨by decide, rfl⟩ rfl rfl rfl (gd_some hv).1 (sp_P_moveStarts G hv)) (fun M5 => ?_)
    exact im_end rfl (wp_return 33 63 rfl rfl)

theorem sp_P_insert (G : gl_T) {t : Nat} {a1 : Int32} {a2 : Int32} {a3 : Int32} {M : mm_T} {y : mm_T} (h : ff_P_insert t a1 a2 a3 M = some y) : sp_S mi_P_insert 3 65 G [.ref t, .int a1, .int a2, .int a3] M (sw_v y).1 (sw_v y).2 := sp_of mo_P_insert mw_P_insert (Or.inl (by decide +kernel)) rfl rfl (Or.inl rfl) (ip_P_insert G t a1 a2 a3 M y h)

set_option maxRecDepth 100000 in
set_option maxHeartbeats 4000000 in
theorem ip_D_insertWord (G : gl_T) (t : Nat) (a1 : Int32) (a2 : Int32) (a3 : Int32) (M : mm_T) : im_I mi_D_insertWord 4 89 G M sw_i (ff_D_insertWord t a1 a2 a3 M) 0 [some (.ref t), some (.int a1), some (.int a2), some (.int a3), none] [] M := by
  unfold ff_D_insertWord
  refine im_gd (fun hg => ?_)
  refine im_aload_n 0 0 rfl rfl ?_
  refine im_getR 1 1 rfl fd_D_87 (by decide +kernel) (fun x1 => ?_)
  refine im_iload_n 2 4 rfl rfl ?_
  refine im_ci (S := []) (fun _ hv => cpV (fr' := 2) (lo' := 41) (i := 3) (As := [.int a1]) (S := []) (a := x1) (c := 7) rfl lk_D_400 mw_P_startOf mv_P_startOf rfl ⟨by decide, rfl⟩ rfl rfl rfl (gd_some hv).1 (sp_P_startOf G hv)) (fun x2 => ?_)
  refine im_iload_n 4 8 rfl rfl ?_
  refine im_iadd 5 9 rfl ?_
  refine im_letI (fun x3 => ?_)
  refine im_istore 6 10 [some (.ref t), some (.int a1), some (.int a2), some (.int a3), some (.int x3)] rfl rfl rfl ?_
  refine im_aload_n 7 12 rfl rfl ?_
  refine im_getR 8 13 rfl fd_D_33 (by decide +kernel) (fun x4 => ?_)
  refine im_aload_n 9 16 rfl rfl ?_
  refine im_getR 10 17 rfl fd_D_87 (by decide +kernel) (fun x5 => ?_)
  refine im_cWv (S := []) (fun _ hv => cpV (fr' := 3) (lo' := 63) (i := 11) (As := [.ref x5]) (S := []) (a := x4) (c := 3) rfl lk_D_368 mw_H_keep mv_H_keep rfl ⟨by decide, rfl⟩ rfl rfl rfl (gd_some hv).1 (sp_H_keep G hv)) (fun M1 => ?_)
  refine im_aload_n 12 23 rfl rfl ?_
  refine im_getR 13 24 rfl fd_D_87 (by decide +kernel) (fun x6 => ?_)
  refine im_iload_n 14 27 rfl rfl ?_
  refine im_iload 15 28 rfl rfl ?_
  refine im_iload_n 16 30 rfl rfl ?_
  refine im_cWv (S := []) (fun _ hv => cpV (fr' := 3) (lo' := 65) (i := 17) (As := [.int a1, .int x3, .int a3]) (S := []) (a := x6) (c := 7) rfl lk_D_466 mw_P_insert mv_P_insert rfl ⟨by decide, rfl⟩ rfl rfl rfl (gd_some hv).1 (sp_P_insert G hv)) (fun M2 => ?_)
  refine im_aload_n 18 34 rfl rfl ?_
  refine im_cWv (S := []) (fun _ hv => cpV (fr' := 1) (lo' := 20) (i := 19) (As := []) (S := []) (a := t) (c := 10) rfl lk_D_374 mw_D_forgetAnalyses mv_D_forgetAnalyses rfl ⟨by decide, rfl⟩ rfl rfl rfl (gd_some hv).1 (sp_D_forgetAnalyses G hv)) (fun M3 => ?_)
  refine im_iload 20 38 rfl rfl ?_
  exact im_end rfl (wp_ireturn 21 40 rfl rfl)

theorem sp_D_insertWord (G : gl_T) {t : Nat} {a1 : Int32} {a2 : Int32} {a3 : Int32} {M : mm_T} {y : Int32 × mm_T} (h : ff_D_insertWord t a1 a2 a3 M = some y) : sp_S mi_D_insertWord 4 89 G [.ref t, .int a1, .int a2, .int a3] M (sw_i y).1 (sw_i y).2 := sp_of mo_D_insertWord mw_D_insertWord (Or.inl (by decide +kernel)) rfl rfl (Or.inl rfl) (ip_D_insertWord G t a1 a2 a3 M y h)

set_option maxRecDepth 100000 in
set_option maxHeartbeats 4000000 in
theorem ip_D_insertSet (G : gl_T) (t : Nat) (a1 : Int32) (a2 : Int32) (a3 : Int32) (a4 : Int32) (M : mm_T) : im_I mi_D_insertSet 7 113 G M sX_i (ff_D_insertSet t a1 a2 a3 a4 M) 0 [some (.ref t), some (.int a1), some (.int a2), some (.int a3), some (.int a4)] [] M := by
  unfold ff_D_insertSet
  refine im_gd (fun hg => ?_)
  refine im_aload_n 0 0 rfl rfl ?_
  refine im_iload_n 1 1 rfl rfl ?_
  refine im_rq (S := []) (fun hv => cpV (fr' := 6) (lo' := 90) (i := 2) (As := [.int a1]) (S := []) (a := t) (c := 10) rfl lk_D_137 mw_D_requireBlock mv_D_requireBlock rfl ⟨by decide, rfl⟩ rfl rfl rfl (gd_some hv).1 (sp_D_requireBlock G hv)) (fun _ hv => xpV (fr' := 6) (lo' := 90) (i := 2) (As := [.int a1]) (S := []) (a := t) (c := 10) rfl lm_D_137 mw_D_requireBlock mv_D_requireBlock rfl ⟨by decide, rfl⟩ rfl rfl rfl (gd_some hv).1 (sp_D_requireBlock G hv) (tw_out rfl)) (fun _ => rfl) ?_
  refine im_aload_n 3 5 rfl rfl ?_
  refine im_iload_n 4 6 rfl rfl ?_
  refine im_iload_n 5 7 rfl rfl ?_
  refine im_rq (S := []) (fun hv => cpV (fr' := 6) (lo' := 90) (i := 6) (As := [.int a1, .int a2]) (S := []) (a := t) (c := 10) rfl lk_D_342 mw_D_requirePosition mv_D_requirePosition rfl ⟨by decide, rfl⟩ rfl rfl rfl (gd_some hv).1 (sp_D_requirePosition G hv)) (fun _ hv => xpV (fr' := 6) (lo' := 90) (i := 6) (As := [.int a1, .int a2]) (S := []) (a := t) (c := 10) rfl lm_D_342 mw_D_requirePosition mv_D_requirePosition rfl ⟨by decide, rfl⟩ rfl rfl rfl (gd_some hv).1 (sp_D_requirePosition G hv) (tw_out rfl)) (fun _ => rfl) ?_
  refine im_iload_n 7 11 rfl rfl ?_
  refine im_rq (S := []) (fun hv => cpS (fr' := 6) (lo' := 90) (i := 8) (As := [.int a3]) (S := []) rfl lk_D_199 mw_D_requireVariable mv_D_requireVariable rfl rfl rfl rfl (sp_D_requireVariable G hv)) (fun _ hv => xpS (fr' := 6) (lo' := 90) (i := 8) (As := [.int a3]) (S := []) rfl lm_D_199 mw_D_requireVariable mv_D_requireVariable rfl rfl rfl rfl (sp_D_requireVariable G hv) (tw_out rfl)) (fun _ => rfl) ?_
  refine im_iload 9 15 rfl rfl ?_
  refine im_rq (S := []) (fun hv => cpS (fr' := 6) (lo' := 90) (i := 10) (As := [.int a4]) (S := []) rfl lk_D_346 mw_D_requireConstant mv_D_requireConstant rfl rfl rfl rfl (sp_D_requireConstant G hv)) (fun _ hv => xpS (fr' := 6) (lo' := 90) (i := 10) (As := [.int a4]) (S := []) rfl lm_D_346 mw_D_requireConstant mv_D_requireConstant rfl rfl rfl rfl (sp_D_requireConstant G hv) (tw_out rfl)) (fun _ => rfl) ?_
  refine im_aload_n 11 20 rfl rfl ?_
  refine im_rq (S := []) (fun hv => cpV (fr' := 6) (lo' := 90) (i := 12) (As := []) (S := []) (a := t) (c := 10) rfl lk_D_349 mw_D_requireRoom mv_D_requireRoom rfl ⟨by decide, rfl⟩ rfl rfl rfl (gd_some hv).1 (sp_D_requireRoom G hv)) (fun _ hv => xpV (fr' := 6) (lo' := 90) (i := 12) (As := []) (S := []) (a := t) (c := 10) rfl lm_D_349 mw_D_requireRoom mv_D_requireRoom rfl ⟨by decide, rfl⟩ rfl rfl rfl (gd_some hv).1 (sp_D_requireRoom G hv) (tw_out rfl)) (fun _ => rfl) ?_
  refine im_aload_n 13 24 rfl rfl ?_
  refine im_iload_n 14 25 rfl rfl ?_
  refine im_iload_n 15 26 rfl rfl ?_
  refine im_iload_n 16 27 rfl rfl ?_
  refine im_iload 17 28 rfl rfl ?_
  refine im_ci (S := [.int a2, .int a1, .ref t]) (fun _ hv => cpS (fr' := 2) (lo' := 45) (i := 18) (As := [.int a3, .int a4]) (S := [.int a2, .int a1, .ref t]) rfl lk_D_352 mw_O_set mv_O_set rfl rfl rfl rfl (sp_O_set G hv)) (fun x1 => ?_)
  refine im_cWi (S := []) (fun _ _ hv => cpV (fr' := 4) (lo' := 89) (i := 19) (As := [.int a1, .int a2, .int x1]) (S := []) (a := t) (c := 10) rfl lk_D_357 mw_D_insertWord mv_D_insertWord rfl ⟨by decide, rfl⟩ rfl rfl rfl (gd_some hv).1 (sp_D_insertWord G hv)) (fun x2 M1 => ?_)
  exact im_end rfl (wp_ireturn 20 36 rfl rfl)

theorem sp_D_insertSet (G : gl_T) {t : Nat} {a1 : Int32} {a2 : Int32} {a3 : Int32} {a4 : Int32} {M : mm_T} {y : (Int32 ⊕ String) × mm_T} (h : ff_D_insertSet t a1 a2 a3 a4 M = some y) : sp_S mi_D_insertSet 7 113 G [.ref t, .int a1, .int a2, .int a3, .int a4] M (sX_i y).1 (sX_i y).2 := sp_of mo_D_insertSet mw_D_insertSet (Or.inl (by decide +kernel)) rfl rfl (Or.inl rfl) (ip_D_insertSet G t a1 a2 a3 a4 M y h)

set_option maxRecDepth 100000 in
set_option maxHeartbeats 4000000 in
theorem ip_D_requireOperator (G : gl_T) (a1 : Int32) (M : mm_T) : im_I mi_D_requireOperator 6 90 G M (sx_v M) (ff_D_requireOperator a1 M) 0 [some (.int a1)] [] M := by
  unfold ff_D_requireOperator
  refine im_iload_n 0 0 rfl rfl ?_
  refine im_if_eq 1 1 25 rfl (by decide) ?_ ?_
  · exact im_end rfl (wp_return 13 25 rfl rfl)
  · refine im_iload_n 2 4 rfl rfl ?_
    refine im_iconst 3 5 rfl rfl ?_
    refine im_ic_eq 4 6 25 rfl (by decide) ?_ ?_
    · exact im_end rfl (wp_return 13 25 rfl rfl)
    · refine im_iload_n 5 9 rfl rfl ?_
      refine im_iconst 6 10 rfl rfl ?_
      refine im_ic_eq 7 11 25 rfl (by decide) ?_ ?_
      · exact im_end rfl (wp_return 13 25 rfl rfl)
      · exact im_endX rfl (wp_throwW (i := 8) th_D_105_455_109 rfl rfl rfl rfl rfl rfl rfl rfl rfl rfl)

theorem sp_D_requireOperator (G : gl_T) {a1 : Int32} {M : mm_T} {y : Option String} (h : ff_D_requireOperator a1 M = some y) : sp_S mi_D_requireOperator 6 90 G [.int a1] M ((sx_v M) y).1 ((sx_v M) y).2 := sp_of mo_D_requireOperator mw_D_requireOperator (Or.inl (by decide +kernel)) rfl rfl (Or.inl rfl) (ip_D_requireOperator G a1 M y h)

set_option maxRecDepth 100000 in
set_option maxHeartbeats 4000000 in
theorem ip_O_calc (G : gl_T) (a1 : Int32) (a2 : Int32) (a3 : Int32) (a4 : Int32) (M : mm_T) : im_I mi_O_calc 2 45 G M (sh_i M) (ff_O_calc a1 a2 a3 a4 M) 0 [some (.int a1), some (.int a2), some (.int a3), some (.int a4)] [] M := by
  unfold ff_O_calc
  refine im_iconst 0 0 rfl rfl ?_
  refine im_iload_n 1 1 rfl rfl ?_
  refine im_iload_n 2 2 rfl rfl ?_
  refine im_iload_n 3 3 rfl rfl ?_
  refine im_iload_n 4 4 rfl rfl ?_
  refine im_iconst 5 5 rfl rfl ?_
  refine im_ci (S := []) (fun _ hv => cpS (fr' := 1) (lo' := 20) (i := 6) (As := [.int (2 : Int32), .int a1, .int a2, .int a3, .int a4, .int (0 : Int32)]) (S := []) rfl lk_O_9 mw_O_pack mv_O_pack rfl rfl rfl rfl (sp_O_pack G hv)) (fun x1 => ?_)
  exact im_end rfl (wp_ireturn 7 9 rfl rfl)

theorem sp_O_calc (G : gl_T) {a1 : Int32} {a2 : Int32} {a3 : Int32} {a4 : Int32} {M : mm_T} {y : Int32} (h : ff_O_calc a1 a2 a3 a4 M = some y) : sp_S mi_O_calc 2 45 G [.int a1, .int a2, .int a3, .int a4] M ((sh_i M) y).1 ((sh_i M) y).2 := sp_of mo_O_calc mw_O_calc (Or.inl (by decide +kernel)) rfl rfl (Or.inl rfl) (ip_O_calc G a1 a2 a3 a4 M y h)

set_option maxRecDepth 100000 in
set_option maxHeartbeats 4000000 in
theorem ip_D_insertCalc (G : gl_T) (t : Nat) (a1 : Int32) (a2 : Int32) (a3 : Int32) (a4 : Int32) (a5 : Int32) (a6 : Int32) (M : mm_T) : im_I mi_D_insertCalc 7 113 G M sX_i (ff_D_insertCalc t a1 a2 a3 a4 a5 a6 M) 0 [some (.ref t), some (.int a1), some (.int a2), some (.int a3), some (.int a4), some (.int a5), some (.int a6)] [] M := by
  unfold ff_D_insertCalc
  refine im_gd (fun hg => ?_)
  refine im_aload_n 0 0 rfl rfl ?_
  refine im_iload_n 1 1 rfl rfl ?_
  refine im_rq (S := []) (fun hv => cpV (fr' := 6) (lo' := 90) (i := 2) (As := [.int a1]) (S := []) (a := t) (c := 10) rfl lk_D_137 mw_D_requireBlock mv_D_requireBlock rfl ⟨by decide, rfl⟩ rfl rfl rfl (gd_some hv).1 (sp_D_requireBlock G hv)) (fun _ hv => xpV (fr' := 6) (lo' := 90) (i := 2) (As := [.int a1]) (S := []) (a := t) (c := 10) rfl lm_D_137 mw_D_requireBlock mv_D_requireBlock rfl ⟨by decide, rfl⟩ rfl rfl rfl (gd_some hv).1 (sp_D_requireBlock G hv) (tw_out rfl)) (fun _ => rfl) ?_
  refine im_aload_n 3 5 rfl rfl ?_
  refine im_iload_n 4 6 rfl rfl ?_
  refine im_iload_n 5 7 rfl rfl ?_
  refine im_rq (S := []) (fun hv => cpV (fr' := 6) (lo' := 90) (i := 6) (As := [.int a1, .int a2]) (S := []) (a := t) (c := 10) rfl lk_D_342 mw_D_requirePosition mv_D_requirePosition rfl ⟨by decide, rfl⟩ rfl rfl rfl (gd_some hv).1 (sp_D_requirePosition G hv)) (fun _ hv => xpV (fr' := 6) (lo' := 90) (i := 6) (As := [.int a1, .int a2]) (S := []) (a := t) (c := 10) rfl lm_D_342 mw_D_requirePosition mv_D_requirePosition rfl ⟨by decide, rfl⟩ rfl rfl rfl (gd_some hv).1 (sp_D_requirePosition G hv) (tw_out rfl)) (fun _ => rfl) ?_
  refine im_iload_n 7 11 rfl rfl ?_
  refine im_rq (S := []) (fun hv => cpS (fr' := 6) (lo' := 90) (i := 8) (As := [.int a3]) (S := []) rfl lk_D_199 mw_D_requireVariable mv_D_requireVariable rfl rfl rfl rfl (sp_D_requireVariable G hv)) (fun _ hv => xpS (fr' := 6) (lo' := 90) (i := 8) (As := [.int a3]) (S := []) rfl lm_D_199 mw_D_requireVariable mv_D_requireVariable rfl rfl rfl rfl (sp_D_requireVariable G hv) (tw_out rfl)) (fun _ => rfl) ?_
  refine im_iload 9 15 rfl rfl ?_
  refine im_rq (S := []) (fun hv => cpS (fr' := 6) (lo' := 90) (i := 10) (As := [.int a4]) (S := []) rfl lk_D_199 mw_D_requireVariable mv_D_requireVariable rfl rfl rfl rfl (sp_D_requireVariable G hv)) (fun _ hv => xpS (fr' := 6) (lo' := 90) (i := 10) (As := [.int a4]) (S := []) rfl lm_D_199 mw_D_requireVariable mv_D_requireVariable rfl rfl rfl rfl (sp_D_requireVariable G hv) (tw_out rfl)) (fun _ => rfl) ?_
  refine im_iload 11 20 rfl rfl ?_
  refine im_rq (S := []) (fun hv => cpS (fr' := 6) (lo' := 90) (i := 12) (As := [.int a5]) (S := []) rfl lk_D_361 mw_D_requireOperator mv_D_requireOperator rfl rfl rfl rfl (sp_D_requireOperator G hv)) (fun _ hv => xpS (fr' := 6) (lo' := 90) (i := 12) (As := [.int a5]) (S := []) rfl lm_D_361 mw_D_requireOperator mv_D_requireOperator rfl rfl rfl rfl (sp_D_requireOperator G hv) (tw_out rfl)) (fun _ => rfl) ?_
  refine im_iload 13 25 rfl rfl ?_
  refine im_rq (S := []) (fun hv => cpS (fr' := 6) (lo' := 90) (i := 14) (As := [.int a6]) (S := []) rfl lk_D_199 mw_D_requireVariable mv_D_requireVariable rfl rfl rfl rfl (sp_D_requireVariable G hv)) (fun _ hv => xpS (fr' := 6) (lo' := 90) (i := 14) (As := [.int a6]) (S := []) rfl lm_D_199 mw_D_requireVariable mv_D_requireVariable rfl rfl rfl rfl (sp_D_requireVariable G hv) (tw_out rfl)) (fun _ => rfl) ?_
  refine im_aload_n 15 30 rfl rfl ?_
  refine im_rq (S := []) (fun hv => cpV (fr' := 6) (lo' := 90) (i := 16) (As := []) (S := []) (a := t) (c := 10) rfl lk_D_349 mw_D_requireRoom mv_D_requireRoom rfl ⟨by decide, rfl⟩ rfl rfl rfl (gd_some hv).1 (sp_D_requireRoom G hv)) (fun _ hv => xpV (fr' := 6) (lo' := 90) (i := 16) (As := []) (S := []) (a := t) (c := 10) rfl lm_D_349 mw_D_requireRoom mv_D_requireRoom rfl ⟨by decide, rfl⟩ rfl rfl rfl (gd_some hv).1 (sp_D_requireRoom G hv) (tw_out rfl)) (fun _ => rfl) ?_
  refine im_aload_n 17 34 rfl rfl ?_
  refine im_iload_n 18 35 rfl rfl ?_
  refine im_iload_n 19 36 rfl rfl ?_
  refine im_iload_n 20 37 rfl rfl ?_
  refine im_iload 21 38 rfl rfl ?_
  refine im_iload 22 40 rfl rfl ?_
  refine im_iload 23 42 rfl rfl ?_
  refine im_ci (S := [.int a2, .int a1, .ref t]) (fun _ hv => cpS (fr' := 2) (lo' := 45) (i := 24) (As := [.int a3, .int a4, .int a5, .int a6]) (S := [.int a2, .int a1, .ref t]) rfl lk_D_364 mw_O_calc mv_O_calc rfl rfl rfl rfl (sp_O_calc G hv)) (fun x1 => ?_)
  refine im_cWi (S := []) (fun _ _ hv => cpV (fr' := 4) (lo' := 89) (i := 25) (As := [.int a1, .int a2, .int x1]) (S := []) (a := t) (c := 10) rfl lk_D_357 mw_D_insertWord mv_D_insertWord rfl ⟨by decide, rfl⟩ rfl rfl rfl (gd_some hv).1 (sp_D_insertWord G hv)) (fun x2 M1 => ?_)
  exact im_end rfl (wp_ireturn 26 50 rfl rfl)

theorem sp_D_insertCalc (G : gl_T) {t : Nat} {a1 : Int32} {a2 : Int32} {a3 : Int32} {a4 : Int32} {a5 : Int32} {a6 : Int32} {M : mm_T} {y : (Int32 ⊕ String) × mm_T} (h : ff_D_insertCalc t a1 a2 a3 a4 a5 a6 M = some y) : sp_S mi_D_insertCalc 7 113 G [.ref t, .int a1, .int a2, .int a3, .int a4, .int a5, .int a6] M (sX_i y).1 (sX_i y).2 := sp_of mo_D_insertCalc mw_D_insertCalc (Or.inl (by decide +kernel)) rfl rfl (Or.inl rfl) (ip_D_insertCalc G t a1 a2 a3 a4 a5 a6 M y h)

set_option maxRecDepth 100000 in
set_option maxHeartbeats 4000000 in
theorem li_P_remove_18 (G : gl_T) (M0 : mm_T) (k0 : mm_T → Option (mm_T)) (p0 : Nat) (p2 : Int32) (hk0 : ∀ (N : mm_T), im_I mi_P_remove 3 65 G M0 sw_v (k0 N) 50 [some (.ref p0), none, some (.int p2), none] [] N) : ∀ (fu : Nat) (q3 : Int32) (N : mm_T), im_I mi_P_remove 3 65 G M0 sw_v (lf_P_remove_18 k0 p0 p2 fu q3 N) 18 [some (.ref p0), none, some (.int p2), some (.int q3)] [] N := by
  intro fu
  induction fu with
  | zero => intro _ _; exact im_none
  | succ fu ih =>
    intro q3 N
    show im_I mi_P_remove 3 65 G M0 sw_v (lb_P_remove_18 k0 p0 p2 (lf_P_remove_18 k0 p0 p2 fu) q3 N) 18 [some (.ref p0), none, some (.int p2), some (.int q3)] [] N
    unfold lb_P_remove_18
    refine im_iload_n 12 18 rfl rfl ?_
    refine im_aload_n 13 19 rfl rfl ?_
    refine im_getI 14 20 rfl fd_P_34 (by decide +kernel) (fun x3 => ?_)
    refine im_ic_ge 15 23 50 rfl (by decide) ?_ ?_
    · exact im_less _ (by simp [lv_le]) (hk0 N)
    · refine im_aload_n 16 26 rfl rfl ?_
      refine im_getR 17 27 rfl fd_P_9 (by decide +kernel) (fun x4 => ?_)
      refine im_iload_n 18 30 rfl rfl ?_
      refine im_aload_n 19 31 rfl rfl ?_
      refine im_getR 20 32 rfl fd_P_9 (by decide +kernel) (fun x5 => ?_)
      refine im_iload_n 21 35 rfl rfl ?_
      refine im_iconst 22 36 rfl rfl ?_
      refine im_iadd 23 37 rfl ?_
      refine im_ci (S := [.int q3, .ref x4]) (fun _ hv => cpS (fr' := 1) (lo' := 20) (i := 24) (As := [.ref x5, .int (q3 + (1 : Int32))]) (S := [.int q3, .ref x4]) rfl lk_P_41 mw_D_at_a mv_D_at_a rfl rfl rfl rfl (sp_D_at_a G hv)) (fun x6 => ?_)
      refine im_cWv (S := []) (fun _ hv => cpS (fr' := 1) (lo' := 20) (i := 25) (As := [.ref x4, .int q3, .int x6]) (S := []) rfl lk_P_49 mw_D_put_a mv_D_put_a rfl rfl rfl rfl (sp_D_put_a G hv)) (fun M2 => ?_)
      refine im_iincL 26 44 (fun x7 => [some (.ref p0), none, some (.int p2), some (.int x7)]) rfl rfl rfl rfl (fun _ => rfl) (fun x7 => ?_)
      refine im_goto 27 47 18 rfl (by decide) ?_
      exact im_less _ (by simp [lv_le]) (ih x7 M2)

set_option maxRecDepth 100000 in
set_option maxHeartbeats 4000000 in
theorem ip_P_remove (G : gl_T) (t : Nat) (a1 : Int32) (M : mm_T) : im_I mi_P_remove 3 65 G M sw_v (ff_P_remove t a1 M) 0 [some (.ref t), some (.int a1), none, none] [] M := by
  unfold ff_P_remove
  refine im_gd (fun hg => ?_)
  refine im_aload_n 0 0 rfl rfl ?_
  refine im_iload_n 1 1 rfl rfl ?_
  refine im_ci (S := []) (fun _ hv => cpV (fr' := 2) (lo' := 41) (i := 2) (As := [.int a1]) (S := []) (a := t) (c := 7) rfl lk_P_57 mw_P_blockAt mv_P_blockAt rfl ⟨by decide, rfl⟩ rfl rfl rfl (gd_some hv).1 (sp_P_blockAt G hv)) (fun x1 => ?_)
  refine im_istore_n 3 5 [some (.ref t), some (.int a1), some (.int x1), none] rfl rfl rfl ?_
  refine im_aload_n 4 6 rfl rfl ?_
  refine im_dup 5 7 rfl rfl ?_
  refine im_getI 6 8 rfl fd_P_34 (by decide +kernel) (fun x2 => ?_)
  refine im_iconst 7 11 rfl rfl ?_
  refine im_isub 8 12 rfl ?_
  refine im_putI 9 13 rfl fd_P_34 (Or.inl (by decide +kernel)) (by decide +kernel) (fun M1 => ?_)
  refine im_iload_n 10 16 rfl rfl ?_
  refine im_istore_n 11 17 [some (.ref t), some (.int a1), some (.int x1), some (.int a1)] rfl rfl rfl ?_
  refine im_less [some (.ref t), none, some (.int x1), some (.int a1)] (by simp [lv_le]) ?_
  refine li_P_remove_18 G M _ t x1 ?_ fu_L a1 M1
  · intro M3
    show im_I mi_P_remove 3 65 G M sw_v (_) 50 [some (.ref t), none, some (.int x1), none] [] M3
    refine im_aload_n 28 50 rfl rfl ?_
    refine im_iload_n 29 51 rfl rfl ?_
    refine im_iconst 30 52 rfl rfl ?_
    refine im_cWv (S := []) (fun _ hv => cpV (fr' := 2) (lo' := 42) (i := 31) (As := [.int x1, .int (-1 : Int32)]) (S := []) (a := t) (c := 7) rfl lk_P_53 mw_P_moveStarts mv_P_moveStarts rfl ⟨by decide, rfl⟩ rfl rfl rfl (gd_some hv).1 (sp_P_moveStarts G hv)) (fun M4 => ?_)
    exact im_end rfl (wp_return 32 56 rfl rfl)

theorem sp_P_remove (G : gl_T) {t : Nat} {a1 : Int32} {M : mm_T} {y : mm_T} (h : ff_P_remove t a1 M = some y) : sp_S mi_P_remove 3 65 G [.ref t, .int a1] M (sw_v y).1 (sw_v y).2 := sp_of mo_P_remove mw_P_remove (Or.inl (by decide +kernel)) rfl rfl (Or.inl rfl) (ip_P_remove G t a1 M y h)

set_option maxRecDepth 100000 in
set_option maxHeartbeats 4000000 in
theorem ip_D_removeInstruction (G : gl_T) (t : Nat) (a1 : Int32) (M : mm_T) : im_I mi_D_removeInstruction 7 111 G M sX_i (ff_D_removeInstruction t a1 M) 0 [some (.ref t), some (.int a1)] [] M := by
  unfold ff_D_removeInstruction
  refine im_gd (fun hg => ?_)
  refine im_aload_n 0 0 rfl rfl ?_
  refine im_iload_n 1 1 rfl rfl ?_
  refine im_rq (S := []) (fun hv => cpV (fr' := 6) (lo' := 90) (i := 2) (As := [.int a1]) (S := []) (a := t) (c := 10) rfl lk_D_144 mw_D_requireInstruction mv_D_requireInstruction rfl ⟨by decide, rfl⟩ rfl rfl rfl (gd_some hv).1 (sp_D_requireInstruction G hv)) (fun _ hv => xpV (fr' := 6) (lo' := 90) (i := 2) (As := [.int a1]) (S := []) (a := t) (c := 10) rfl lm_D_144 mw_D_requireInstruction mv_D_requireInstruction rfl ⟨by decide, rfl⟩ rfl rfl rfl (gd_some hv).1 (sp_D_requireInstruction G hv) (tw_out rfl)) (fun _ => rfl) ?_
  refine im_aload_n 3 5 rfl rfl ?_
  refine im_getR 4 6 rfl fd_D_33 (by decide +kernel) (fun x1 => ?_)
  refine im_aload_n 5 9 rfl rfl ?_
  refine im_getR 6 10 rfl fd_D_87 (by decide +kernel) (fun x2 => ?_)
  refine im_cWv (S := []) (fun _ hv => cpV (fr' := 3) (lo' := 63) (i := 7) (As := [.ref x2]) (S := []) (a := x1) (c := 3) rfl lk_D_368 mw_H_keep mv_H_keep rfl ⟨by decide, rfl⟩ rfl rfl rfl (gd_some hv).1 (sp_H_keep G hv)) (fun M1 => ?_)
  refine im_aload_n 8 16 rfl rfl ?_
  refine im_getR 9 17 rfl fd_D_87 (by decide +kernel) (fun x3 => ?_)
  refine im_iload_n 10 20 rfl rfl ?_
  refine im_cWv (S := []) (fun _ hv => cpV (fr' := 3) (lo' := 65) (i := 11) (As := [.int a1]) (S := []) (a := x3) (c := 7) rfl lk_D_371 mw_P_remove mv_P_remove rfl ⟨by decide, rfl⟩ rfl rfl rfl (gd_some hv).1 (sp_P_remove G hv)) (fun M2 => ?_)
  refine im_aload_n 12 24 rfl rfl ?_
  refine im_cWv (S := []) (fun _ hv => cpV (fr' := 1) (lo' := 20) (i := 13) (As := []) (S := []) (a := t) (c := 10) rfl lk_D_374 mw_D_forgetAnalyses mv_D_forgetAnalyses rfl ⟨by decide, rfl⟩ rfl rfl rfl (gd_some hv).1 (sp_D_forgetAnalyses G hv)) (fun M3 => ?_)
  refine im_aload_n 14 28 rfl rfl ?_
  refine im_getR 15 29 rfl fd_D_87 (by decide +kernel) (fun x4 => ?_)
  refine im_getI 16 32 rfl fd_D_134 (by decide +kernel) (fun x5 => ?_)
  exact im_end rfl (wp_ireturn 17 35 rfl rfl)

theorem sp_D_removeInstruction (G : gl_T) {t : Nat} {a1 : Int32} {M : mm_T} {y : (Int32 ⊕ String) × mm_T} (h : ff_D_removeInstruction t a1 M = some y) : sp_S mi_D_removeInstruction 7 111 G [.ref t, .int a1] M (sX_i y).1 (sX_i y).2 := sp_of mo_D_removeInstruction mw_D_removeInstruction (Or.inl (by decide +kernel)) rfl rfl (Or.inl rfl) (ip_D_removeInstruction G t a1 M y h)

set_option maxRecDepth 100000 in
set_option maxHeartbeats 4000000 in
theorem ip_G_countReached (G : gl_T) (t : Nat) (M : mm_T) : im_I mi_G_countReached 2 40 G M (sh_i M) (ff_G_countReached t M) 0 [some (.ref t)] [] M := by
  unfold ff_G_countReached
  refine im_gd (fun hg => ?_)
  refine im_aload_n 0 0 rfl rfl ?_
  refine im_getI 1 1 rfl fd_G_49 (by decide +kernel) (fun x1 => ?_)
  refine im_ci (S := []) (fun _ hv => cpS (fr' := 1) (lo' := 20) (i := 2) (As := [.int x1]) (S := []) rfl lk_G_57 mw_JI_bitCount mv_JI_bitCount rfl rfl rfl rfl (sp_JI_bitCount G hv)) (fun x2 => ?_)
  exact im_end rfl (wp_ireturn 3 7 rfl rfl)

theorem sp_G_countReached (G : gl_T) {t : Nat} {M : mm_T} {y : Int32} (h : ff_G_countReached t M = some y) : sp_S mi_G_countReached 2 40 G [.ref t] M ((sh_i M) y).1 ((sh_i M) y).2 := sp_of mo_G_countReached mw_G_countReached (Or.inl (by decide +kernel)) rfl rfl (Or.inl rfl) (ip_G_countReached G t M y h)

set_option maxRecDepth 100000 in
set_option maxHeartbeats 4000000 in
theorem ip_D_setGoto (G : gl_T) (t : Nat) (a1 : Int32) (a2 : Int32) (M : mm_T) : im_I mi_D_setGoto 7 132 G M sX_i (ff_D_setGoto t a1 a2 M) 0 [some (.ref t), some (.int a1), some (.int a2)] [] M := by
  unfold ff_D_setGoto
  refine im_gd (fun hg => ?_)
  refine im_aload_n 0 0 rfl rfl ?_
  refine im_iload_n 1 1 rfl rfl ?_
  refine im_rq (S := []) (fun hv => cpV (fr' := 6) (lo' := 90) (i := 2) (As := [.int a1]) (S := []) (a := t) (c := 10) rfl lk_D_137 mw_D_requireBlock mv_D_requireBlock rfl ⟨by decide, rfl⟩ rfl rfl rfl (gd_some hv).1 (sp_D_requireBlock G hv)) (fun _ hv => xpV (fr' := 6) (lo' := 90) (i := 2) (As := [.int a1]) (S := []) (a := t) (c := 10) rfl lm_D_137 mw_D_requireBlock mv_D_requireBlock rfl ⟨by decide, rfl⟩ rfl rfl rfl (gd_some hv).1 (sp_D_requireBlock G hv) (tw_out rfl)) (fun _ => rfl) ?_
  refine im_aload_n 3 5 rfl rfl ?_
  refine im_iload_n 4 6 rfl rfl ?_
  refine im_rq (S := []) (fun hv => cpV (fr' := 6) (lo' := 90) (i := 5) (As := [.int a2]) (S := []) (a := t) (c := 10) rfl lk_D_137 mw_D_requireBlock mv_D_requireBlock rfl ⟨by decide, rfl⟩ rfl rfl rfl (gd_some hv).1 (sp_D_requireBlock G hv)) (fun _ hv => xpV (fr' := 6) (lo' := 90) (i := 5) (As := [.int a2]) (S := []) (a := t) (c := 10) rfl lm_D_137 mw_D_requireBlock mv_D_requireBlock rfl ⟨by decide, rfl⟩ rfl rfl rfl (gd_some hv).1 (sp_D_requireBlock G hv) (tw_out rfl)) (fun _ => rfl) ?_
  refine im_aload_n 6 10 rfl rfl ?_
  refine im_getR 7 11 rfl fd_D_33 (by decide +kernel) (fun x1 => ?_)
  refine im_aload_n 8 14 rfl rfl ?_
  refine im_getR 9 15 rfl fd_D_87 (by decide +kernel) (fun x2 => ?_)
  refine im_cWv (S := []) (fun _ hv => cpV (fr' := 3) (lo' := 63) (i := 10) (As := [.ref x2]) (S := []) (a := x1) (c := 3) rfl lk_D_368 mw_H_keep mv_H_keep rfl ⟨by decide, rfl⟩ rfl rfl rfl (gd_some hv).1 (sp_H_keep G hv)) (fun M1 => ?_)
  refine im_aload_n 11 21 rfl rfl ?_
  refine im_getR 12 22 rfl fd_D_87 (by decide +kernel) (fun x3 => ?_)
  refine im_iload_n 13 25 rfl rfl ?_
  refine im_iload_n 14 26 rfl rfl ?_
  refine im_cWv (S := []) (fun _ hv => cpV (fr' := 2) (lo' := 42) (i := 15) (As := [.int a1, .int a2]) (S := []) (a := x3) (c := 7) rfl lk_D_377 mw_P_exitByGoto mv_P_exitByGoto rfl ⟨by decide, rfl⟩ rfl rfl rfl (gd_some hv).1 (sp_P_exitByGoto G hv)) (fun M2 => ?_)
  refine im_aload_n 16 30 rfl rfl ?_
  refine im_cWv (S := []) (fun _ hv => cpV (fr' := 1) (lo' := 20) (i := 17) (As := []) (S := []) (a := t) (c := 10) rfl lk_D_374 mw_D_forgetAnalyses mv_D_forgetAnalyses rfl ⟨by decide, rfl⟩ rfl rfl rfl (gd_some hv).1 (sp_D_forgetAnalyses G hv)) (fun M3 => ?_)
  refine im_aload_n 18 34 rfl rfl ?_
  refine im_cWr (S := []) (fun _ _ hv => cpV (fr' := 5) (lo' := 112) (i := 19) (As := []) (S := []) (a := t) (c := 10) rfl lk_D_165 mw_D_graph mv_D_graph rfl ⟨by decide, rfl⟩ rfl rfl rfl (gd_some hv).1 (sp_D_graph G hv)) (fun x4 M4 => ?_)
  refine im_ci (S := []) (fun _ hv => cpV (fr' := 2) (lo' := 40) (i := 20) (As := []) (S := []) (a := x4) (c := 2) rfl lk_D_380 mw_G_countReached mv_G_countReached rfl ⟨by decide, rfl⟩ rfl rfl rfl (gd_some hv).1 (sp_G_countReached G hv)) (fun x5 => ?_)
  exact im_end rfl (wp_ireturn 21 41 rfl rfl)

theorem sp_D_setGoto (G : gl_T) {t : Nat} {a1 : Int32} {a2 : Int32} {M : mm_T} {y : (Int32 ⊕ String) × mm_T} (h : ff_D_setGoto t a1 a2 M = some y) : sp_S mi_D_setGoto 7 132 G [.ref t, .int a1, .int a2] M (sX_i y).1 (sX_i y).2 := sp_of mo_D_setGoto mw_D_setGoto (Or.inl (by decide +kernel)) rfl rfl (Or.inl rfl) (ip_D_setGoto G t a1 a2 M y h)

set_option maxRecDepth 100000 in
set_option maxHeartbeats 4000000 in
theorem ip_D_setBranch (G : gl_T) (t : Nat) (a1 : Int32) (a2 : Int32) (a3 : Int32) (a4 : Int32) (M : mm_T) : im_I mi_D_setBranch 7 132 G M sX_i (ff_D_setBranch t a1 a2 a3 a4 M) 0 [some (.ref t), some (.int a1), some (.int a2), some (.int a3), some (.int a4)] [] M := by
  unfold ff_D_setBranch
  refine im_gd (fun hg => ?_)
  refine im_aload_n 0 0 rfl rfl ?_
  refine im_iload_n 1 1 rfl rfl ?_
  refine im_rq (S := []) (fun hv => cpV (fr' := 6) (lo' := 90) (i := 2) (As := [.int a1]) (S := []) (a := t) (c := 10) rfl lk_D_137 mw_D_requireBlock mv_D_requireBlock rfl ⟨by decide, rfl⟩ rfl rfl rfl (gd_some hv).1 (sp_D_requireBlock G hv)) (fun _ hv => xpV (fr' := 6) (lo' := 90) (i := 2) (As := [.int a1]) (S := []) (a := t) (c := 10) rfl lm_D_137 mw_D_requireBlock mv_D_requireBlock rfl ⟨by decide, rfl⟩ rfl rfl rfl (gd_some hv).1 (sp_D_requireBlock G hv) (tw_out rfl)) (fun _ => rfl) ?_
  refine im_aload_n 3 5 rfl rfl ?_
  refine im_iload_n 4 6 rfl rfl ?_
  refine im_rq (S := []) (fun hv => cpV (fr' := 6) (lo' := 90) (i := 5) (As := [.int a3]) (S := []) (a := t) (c := 10) rfl lk_D_137 mw_D_requireBlock mv_D_requireBlock rfl ⟨by decide, rfl⟩ rfl rfl rfl (gd_some hv).1 (sp_D_requireBlock G hv)) (fun _ hv => xpV (fr' := 6) (lo' := 90) (i := 5) (As := [.int a3]) (S := []) (a := t) (c := 10) rfl lm_D_137 mw_D_requireBlock mv_D_requireBlock rfl ⟨by decide, rfl⟩ rfl rfl rfl (gd_some hv).1 (sp_D_requireBlock G hv) (tw_out rfl)) (fun _ => rfl) ?_
  refine im_aload_n 6 10 rfl rfl ?_
  refine im_iload 7 11 rfl rfl ?_
  refine im_rq (S := []) (fun hv => cpV (fr' := 6) (lo' := 90) (i := 8) (As := [.int a4]) (S := []) (a := t) (c := 10) rfl lk_D_137 mw_D_requireBlock mv_D_requireBlock rfl ⟨by decide, rfl⟩ rfl rfl rfl (gd_some hv).1 (sp_D_requireBlock G hv)) (fun _ hv => xpV (fr' := 6) (lo' := 90) (i := 8) (As := [.int a4]) (S := []) (a := t) (c := 10) rfl lm_D_137 mw_D_requireBlock mv_D_requireBlock rfl ⟨by decide, rfl⟩ rfl rfl rfl (gd_some hv).1 (sp_D_requireBlock G hv) (tw_out rfl)) (fun _ => rfl) ?_
  refine im_iload_n 9 16 rfl rfl ?_
  refine im_rq (S := []) (fun hv => cpS (fr' := 6) (lo' := 90) (i := 10) (As := [.int a2]) (S := []) rfl lk_D_199 mw_D_requireVariable mv_D_requireVariable rfl rfl rfl rfl (sp_D_requireVariable G hv)) (fun _ hv => xpS (fr' := 6) (lo' := 90) (i := 10) (As := [.int a2]) (S := []) rfl lm_D_199 mw_D_requireVariable mv_D_requireVariable rfl rfl rfl rfl (sp_D_requireVariable G hv) (tw_out rfl)) (fun _ => rfl) ?_
  refine im_aload_n 11 20 rfl rfl ?_
  refine im_getR 12 21 rfl fd_D_33 (by decide +kernel) (fun x1 => ?_)
  refine im_aload_n 13 24 rfl rfl ?_
  refine im_getR 14 25 rfl fd_D_87 (by decide +kernel) (fun x2 => ?_)
  refine im_cWv (S := []) (fun _ hv => cpV (fr' := 3) (lo' := 63) (i := 15) (As := [.ref x2]) (S := []) (a := x1) (c := 3) rfl lk_D_368 mw_H_keep mv_H_keep rfl ⟨by decide, rfl⟩ rfl rfl rfl (gd_some hv).1 (sp_H_keep G hv)) (fun M1 => ?_)
  refine im_aload_n 16 31 rfl rfl ?_
  refine im_getR 17 32 rfl fd_D_87 (by decide +kernel) (fun x3 => ?_)
  refine im_iload_n 18 35 rfl rfl ?_
  refine im_iload_n 19 36 rfl rfl ?_
  refine im_iload_n 20 37 rfl rfl ?_
  refine im_iload 21 38 rfl rfl ?_
  refine im_cWv (S := []) (fun _ hv => cpV (fr' := 2) (lo' := 42) (i := 22) (As := [.int a1, .int a2, .int a3, .int a4]) (S := []) (a := x3) (c := 7) rfl lk_D_383 mw_P_exitByBranch mv_P_exitByBranch rfl ⟨by decide, rfl⟩ rfl rfl rfl (gd_some hv).1 (sp_P_exitByBranch G hv)) (fun M2 => ?_)
  refine im_aload_n 23 43 rfl rfl ?_
  refine im_cWv (S := []) (fun _ hv => cpV (fr' := 1) (lo' := 20) (i := 24) (As := []) (S := []) (a := t) (c := 10) rfl lk_D_374 mw_D_forgetAnalyses mv_D_forgetAnalyses rfl ⟨by decide, rfl⟩ rfl rfl rfl (gd_some hv).1 (sp_D_forgetAnalyses G hv)) (fun M3 => ?_)
  refine im_aload_n 25 47 rfl rfl ?_
  refine im_cWr (S := []) (fun _ _ hv => cpV (fr' := 5) (lo' := 112) (i := 26) (As := []) (S := []) (a := t) (c := 10) rfl lk_D_165 mw_D_graph mv_D_graph rfl ⟨by decide, rfl⟩ rfl rfl rfl (gd_some hv).1 (sp_D_graph G hv)) (fun x4 M4 => ?_)
  refine im_ci (S := []) (fun _ hv => cpV (fr' := 2) (lo' := 40) (i := 27) (As := []) (S := []) (a := x4) (c := 2) rfl lk_D_380 mw_G_countReached mv_G_countReached rfl ⟨by decide, rfl⟩ rfl rfl rfl (gd_some hv).1 (sp_G_countReached G hv)) (fun x5 => ?_)
  exact im_end rfl (wp_ireturn 28 54 rfl rfl)

theorem sp_D_setBranch (G : gl_T) {t : Nat} {a1 : Int32} {a2 : Int32} {a3 : Int32} {a4 : Int32} {M : mm_T} {y : (Int32 ⊕ String) × mm_T} (h : ff_D_setBranch t a1 a2 a3 a4 M = some y) : sp_S mi_D_setBranch 7 132 G [.ref t, .int a1, .int a2, .int a3, .int a4] M (sX_i y).1 (sX_i y).2 := sp_of mo_D_setBranch mw_D_setBranch (Or.inl (by decide +kernel)) rfl rfl (Or.inl rfl) (ip_D_setBranch G t a1 a2 a3 a4 M y h)

set_option maxRecDepth 100000 in
set_option maxHeartbeats 4000000 in
theorem li_D_dropDead_12 (G : gl_T) (M0 : mm_T) (p0 : Nat) (p1 : Nat) : ∀ (fu : Nat) (q2 : Int32) (q3 : Int32) (N : mm_T), im_I mi_D_dropDead 5 107 G M0 sw_i (lf_D_dropDead_12 p0 p1 fu q2 q3 N) 12 [some (.ref p0), some (.ref p1), some (.int q2), some (.int q3)] [] N := by
  intro fu
  induction fu with
  | zero => intro _ _ _; exact im_none
  | succ fu ih =>
    intro q2 q3 N
    show im_I mi_D_dropDead 5 107 G M0 sw_i (lb_D_dropDead_12 p0 p1 (lf_D_dropDead_12 p0 p1 fu) q2 q3 N) 12 [some (.ref p0), some (.ref p1), some (.int q2), some (.int q3)] [] N
    unfold lb_D_dropDead_12
    refine im_iload_n 8 12 rfl rfl ?_
    refine im_if_lt 9 13 44 rfl (by decide) ?_ ?_
    · refine im_iload_n 24 44 rfl rfl ?_
      exact im_endZ (fun _ => rfl) (fun hn => wp_zreturn 25 45 (ty := .boolean) rfl hn rfl)
    · refine im_aload_n 10 16 rfl rfl ?_
      refine im_aload_n 11 17 rfl rfl ?_
      refine im_getR 12 18 rfl fd_D_87 (by decide +kernel) (fun x4 => ?_)
      refine im_iload_n 13 21 rfl rfl ?_
      refine im_ci (S := []) (fun _ hv => cpV (fr' := 4) (lo' := 84) (i := 14) (As := [.ref x4, .int q3]) (S := []) (a := p1) (c := 4) rfl lk_D_238 mw_L_isDeadAt mv_L_isDeadAt rfl ⟨by decide, rfl⟩ rfl rfl rfl (gd_some hv).1 (sp_L_isDeadAt G hv)) (fun x5 => ?_)
      refine im_jp (fun j38 => ∀ (x6 : Int32) (M1 : mm_T), im_I mi_D_dropDead 5 107 G M0 sw_i (j38 x6 M1) 38 [some (.ref p0), some (.ref p1), some (.int x6), some (.int q3)] [] M1) ?_ (fun j38 hj38 => ?_)
      · intro x6 M1
        show im_I mi_D_dropDead 5 107 G M0 sw_i (_) 38 [some (.ref p0), some (.ref p1), some (.int x6), some (.int q3)] [] M1
        refine im_iincL 22 38 (fun x7 => [some (.ref p0), some (.ref p1), some (.int x6), some (.int x7)]) rfl rfl rfl rfl (fun _ => rfl) (fun x7 => ?_)
        refine im_goto 23 41 12 rfl (by decide) ?_
        exact im_less _ (by simp [lv_le]) (ih x6 x7 M1)
      refine im_if_eq 15 25 38 rfl (by decide) ?_ ?_
      · exact im_less _ (by simp [lv_le]) (hj38 q2 N)
      · refine im_aload_n 16 28 rfl rfl ?_
        refine im_getR 17 29 rfl fd_D_87 (by decide +kernel) (fun x8 => ?_)
        refine im_iload_n 18 32 rfl rfl ?_
        refine im_cWv (S := []) (fun _ hv => cpV (fr' := 3) (lo' := 65) (i := 19) (As := [.int q3]) (S := []) (a := x8) (c := 7) rfl lk_D_371 mw_P_remove mv_P_remove rfl ⟨by decide, rfl⟩ rfl rfl rfl (gd_some hv).1 (sp_P_remove G hv)) (fun M2 => ?_)
        refine im_iconst 20 36 rfl rfl ?_
        refine im_istore_n 21 37 [some (.ref p0), some (.ref p1), some (.int (1 : Int32)), some (.int q3)] rfl rfl rfl ?_
        exact im_less _ (by simp [lv_le]) (hj38 (1 : Int32) M2)

set_option maxRecDepth 100000 in
set_option maxHeartbeats 4000000 in
theorem ip_D_dropDead (G : gl_T) (t : Nat) (a1 : Nat) (M : mm_T) : im_I mi_D_dropDead 5 107 G M sw_i (ff_D_dropDead t a1 M) 0 [some (.ref t), some (.ref a1), none, none] [] M := by
  unfold ff_D_dropDead
  refine im_gd (fun hg => ?_)
  refine im_iconst 0 0 rfl rfl ?_
  refine im_istore_n 1 1 [some (.ref t), some (.ref a1), some (.int (0 : Int32)), none] rfl rfl rfl ?_
  refine im_aload_n 2 2 rfl rfl ?_
  refine im_getR 3 3 rfl fd_D_87 (by decide +kernel) (fun x1 => ?_)
  refine im_getI 4 6 rfl fd_D_134 (by decide +kernel) (fun x2 => ?_)
  refine im_iconst 5 9 rfl rfl ?_
  refine im_isub 6 10 rfl ?_
  refine im_letI (fun x3 => ?_)
  refine im_istore_n 7 11 [some (.ref t), some (.ref a1), some (.int (0 : Int32)), some (.int x3)] rfl rfl rfl ?_
  refine im_less [some (.ref t), some (.ref a1), some (.int (0 : Int32)), some (.int x3)] (by simp [lv_le]) ?_
  exact li_D_dropDead_12 G M t a1 fu_L (0 : Int32) x3 M

theorem sp_D_dropDead (G : gl_T) {t : Nat} {a1 : Nat} {M : mm_T} {y : Int32 × mm_T} (h : ff_D_dropDead t a1 M = some y) : sp_S mi_D_dropDead 5 107 G [.ref t, .ref a1] M (sw_i y).1 (sw_i y).2 := sp_of mo_D_dropDead mw_D_dropDead (Or.inl (by decide +kernel)) rfl rfl (Or.inl rfl) (ip_D_dropDead G t a1 M y h)

set_option maxRecDepth 100000 in
set_option maxHeartbeats 4000000 in
theorem li_D_removeDead_23 (G : gl_T) (M0 : mm_T) (k0 : mm_T → Option (Int32 × mm_T)) (p0 : Nat) (p1 : Int32) (hk0 : ∀ (N : mm_T), im_I mi_D_removeDead 7 156 G M0 sw_i (k0 N) 52 [some (.ref p0), some (.int p1), none, none] [] N) : ∀ (fu : Nat) (q2 : Int32) (q3 : Int32) (N : mm_T), im_I mi_D_removeDead 7 156 G M0 sw_i (lf_D_removeDead_23 k0 p0 p1 fu q2 q3 N) 23 [some (.ref p0), some (.int p1), some (.int q2), some (.int q3)] [] N := by
  intro fu
  induction fu with
  | zero => intro _ _ _; exact im_none
  | succ fu ih =>
    intro q2 q3 N
    show im_I mi_D_removeDead 7 156 G M0 sw_i (lb_D_removeDead_23 k0 p0 p1 (lf_D_removeDead_23 k0 p0 p1 fu) q2 q3 N) 23 [some (.ref p0), some (.int p1), some (.int q2), some (.int q3)] [] N
    unfold lb_D_removeDead_23
    refine im_iload_n 13 23 rfl rfl ?_
    refine im_if_eq 14 24 52 rfl (by decide) ?_ ?_
    · exact im_less _ (by simp [lv_le]) (hk0 N)
    · refine im_iload_n 15 27 rfl rfl ?_
      refine im_bipush 16 28 rfl rfl ?_
      refine im_ic_gt 17 30 52 rfl (by decide) ?_ ?_
      · exact im_less _ (by simp [lv_le]) (hk0 N)
      · refine im_aload_n 18 33 rfl rfl ?_
        refine im_aload_n 19 34 rfl rfl ?_
        refine im_cWr (S := [.ref p0]) (fun _ _ hv => cpV (fr' := 6) (lo' := 136) (i := 20) (As := []) (S := [.ref p0]) (a := p0) (c := 10) rfl lk_D_225 mw_D_liveness mv_D_liveness rfl ⟨by decide, rfl⟩ rfl rfl rfl (gd_some hv).1 (sp_D_liveness G hv)) (fun x5 M2 => ?_)
        refine im_cWi (S := []) (fun _ _ hv => cpV (fr' := 5) (lo' := 107) (i := 21) (As := [.ref x5]) (S := []) (a := p0) (c := 10) rfl lk_D_387 mw_D_dropDead mv_D_dropDead rfl ⟨by decide, rfl⟩ rfl rfl rfl (gd_some hv).1 (sp_D_dropDead G hv)) (fun x6 M3 => ?_)
        refine im_istore_n 22 41 [some (.ref p0), some (.int p1), some (.int x6), some (.int q3)] rfl rfl rfl ?_
        refine im_aload_n 23 42 rfl rfl ?_
        refine im_cWv (S := []) (fun _ hv => cpV (fr' := 1) (lo' := 20) (i := 24) (As := []) (S := []) (a := p0) (c := 10) rfl lk_D_374 mw_D_forgetAnalyses mv_D_forgetAnalyses rfl ⟨by decide, rfl⟩ rfl rfl rfl (gd_some hv).1 (sp_D_forgetAnalyses G hv)) (fun M4 => ?_)
        refine im_iincL 25 46 (fun x7 => [some (.ref p0), some (.int p1), some (.int x6), some (.int x7)]) rfl rfl rfl rfl (fun _ => rfl) (fun x7 => ?_)
        refine im_goto 26 49 23 rfl (by decide) ?_
        exact im_less _ (by simp [lv_le]) (ih x6 x7 M4)

set_option maxRecDepth 100000 in
set_option maxHeartbeats 4000000 in
theorem ip_D_removeDead (G : gl_T) (t : Nat) (M : mm_T) : im_I mi_D_removeDead 7 156 G M sw_i (ff_D_removeDead t M) 0 [some (.ref t), none, none, none] [] M := by
  unfold ff_D_removeDead
  refine im_gd (fun hg => ?_)
  refine im_aload_n 0 0 rfl rfl ?_
  refine im_getR 1 1 rfl fd_D_87 (by decide +kernel) (fun x1 => ?_)
  refine im_getI 2 4 rfl fd_D_134 (by decide +kernel) (fun x2 => ?_)
  refine im_istore_n 3 7 [some (.ref t), some (.int x2), none, none] rfl rfl rfl ?_
  refine im_aload_n 4 8 rfl rfl ?_
  refine im_getR 5 9 rfl fd_D_33 (by decide +kernel) (fun x3 => ?_)
  refine im_aload_n 6 12 rfl rfl ?_
  refine im_getR 7 13 rfl fd_D_87 (by decide +kernel) (fun x4 => ?_)
  refine im_cWv (S := []) (fun _ hv => cpV (fr' := 3) (lo' := 63) (i := 8) (As := [.ref x4]) (S := []) (a := x3) (c := 3) rfl lk_D_368 mw_H_keep mv_H_keep rfl ⟨by decide, rfl⟩ rfl rfl rfl (gd_some hv).1 (sp_H_keep G hv)) (fun M1 => ?_)
  refine im_iconst 9 19 rfl rfl ?_
  refine im_istore_n 10 20 [some (.ref t), some (.int x2), some (.int (1 : Int32)), none] rfl rfl rfl ?_
  refine im_iconst 11 21 rfl rfl ?_
  refine im_istore_n 12 22 [some (.ref t), some (.int x2), some (.int (1 : Int32)), some (.int (0 : Int32))] rfl rfl rfl ?_
  refine im_less [some (.ref t), some (.int x2), some (.int (1 : Int32)), some (.int (0 : Int32))] (by simp [lv_le]) ?_
  refine li_D_removeDead_23 G M _ t x2 ?_ fu_L (1 : Int32) (0 : Int32) M1
  · intro M5
    show im_I mi_D_removeDead 7 156 G M sw_i (_) 52 [some (.ref t), some (.int x2), none, none] [] M5
    refine im_iload_n 27 52 rfl rfl ?_
    refine im_aload_n 28 53 rfl rfl ?_
    refine im_getR 29 54 rfl fd_D_87 (by decide +kernel) (fun x8 => ?_)
    refine im_getI 30 57 rfl fd_D_134 (by decide +kernel) (fun x9 => ?_)
    refine im_isub 31 60 rfl ?_
    exact im_end rfl (wp_ireturn 32 61 rfl rfl)

theorem sp_D_removeDead (G : gl_T) {t : Nat} {M : mm_T} {y : Int32 × mm_T} (h : ff_D_removeDead t M = some y) : sp_S mi_D_removeDead 7 156 G [.ref t] M (sw_i y).1 (sw_i y).2 := sp_of mo_D_removeDead mw_D_removeDead (Or.inl (by decide +kernel)) rfl rfl (Or.inl rfl) (ip_D_removeDead G t M y h)

set_option maxRecDepth 100000 in
set_option maxHeartbeats 4000000 in
theorem ip_P_replace (G : gl_T) (t : Nat) (a1 : Int32) (a2 : Int32) (M : mm_T) : im_I mi_P_replace 2 42 G M sw_v (ff_P_replace t a1 a2 M) 0 [some (.ref t), some (.int a1), some (.int a2)] [] M := by
  unfold ff_P_replace
  refine im_gd (fun hg => ?_)
  refine im_aload_n 0 0 rfl rfl ?_
  refine im_getR 1 1 rfl fd_P_9 (by decide +kernel) (fun x1 => ?_)
  refine im_iload_n 2 4 rfl rfl ?_
  refine im_iload_n 3 5 rfl rfl ?_
  refine im_cWv (S := []) (fun _ hv => cpS (fr' := 1) (lo' := 20) (i := 4) (As := [.ref x1, .int a1, .int a2]) (S := []) rfl lk_P_49 mw_D_put_a mv_D_put_a rfl rfl rfl rfl (sp_D_put_a G hv)) (fun M1 => ?_)
  exact im_end rfl (wp_return 5 9 rfl rfl)

theorem sp_P_replace (G : gl_T) {t : Nat} {a1 : Int32} {a2 : Int32} {M : mm_T} {y : mm_T} (h : ff_P_replace t a1 a2 M = some y) : sp_S mi_P_replace 2 42 G [.ref t, .int a1, .int a2] M (sw_v y).1 (sw_v y).2 := sp_of mo_P_replace mw_P_replace (Or.inl (by decide +kernel)) rfl rfl (Or.inl rfl) (ip_P_replace G t a1 a2 M y h)

set_option maxRecDepth 100000 in
set_option maxHeartbeats 4000000 in
theorem li_D_foldConstants_20 (G : gl_T) (M0 : mm_T) (k0 : Int32 → mm_T → Option (Int32 × mm_T)) (p0 : Nat) (p1 : Nat) (hk0 : ∀ (z2 : Int32) (N : mm_T), im_I mi_D_foldConstants 7 162 G M0 sw_i (k0 z2 N) 96 [some (.ref p0), none, some (.int z2), none, none, none] [] N) : ∀ (fu : Nat) (q2 : Int32) (q3 : Int32) (N : mm_T), im_I mi_D_foldConstants 7 162 G M0 sw_i (lf_D_foldConstants_20 k0 p0 p1 fu q2 q3 N) 20 [some (.ref p0), some (.ref p1), some (.int q2), some (.int q3), none, none] [] N := by
  intro fu
  induction fu with
  | zero => intro _ _ _; exact im_none
  | succ fu ih =>
    intro q2 q3 N
    show im_I mi_D_foldConstants 7 162 G M0 sw_i (lb_D_foldConstants_20 k0 p0 p1 (lf_D_foldConstants_20 k0 p0 p1 fu) q2 q3 N) 20 [some (.ref p0), some (.ref p1), some (.int q2), some (.int q3), none, none] [] N
    unfold lb_D_foldConstants_20
    refine im_iload_n 12 20 rfl rfl ?_
    refine im_aload_n 13 21 rfl rfl ?_
    refine im_getR 14 22 rfl fd_D_87 (by decide +kernel) (fun x4 => ?_)
    refine im_getI 15 25 rfl fd_D_134 (by decide +kernel) (fun x5 => ?_)
    refine im_ic_ge 16 28 96 rfl (by decide) ?_ ?_
    · exact im_less _ (by simp [lv_le]) (hk0 q2 N)
    · refine im_aload_n 17 31 rfl rfl ?_
      refine im_getR 18 32 rfl fd_D_87 (by decide +kernel) (fun x6 => ?_)
      refine im_iload_n 19 35 rfl rfl ?_
      refine im_ci (S := []) (fun _ hv => cpV (fr' := 2) (lo' := 41) (i := 20) (As := [.int q3]) (S := []) (a := x6) (c := 7) rfl lk_D_150 mw_P_kindAt mv_P_kindAt rfl ⟨by decide, rfl⟩ rfl rfl rfl (gd_some hv).1 (sp_P_kindAt G hv)) (fun x7 => ?_)
      refine im_istore 21 39 [some (.ref p0), some (.ref p1), some (.int q2), some (.int q3), some (.int x7), none] rfl rfl rfl ?_
      refine im_aload_n 22 41 rfl rfl ?_
      refine im_iload_n 23 42 rfl rfl ?_
      refine im_ci (S := []) (fun _ hv => cpV (fr' := 2) (lo' := 41) (i := 24) (As := [.int q3]) (S := []) (a := p1) (c := 1) rfl lk_D_291 mw_C_constantGiven mv_C_constantGiven rfl ⟨by decide, rfl⟩ rfl rfl rfl (gd_some hv).1 (sp_C_constantGiven G hv)) (fun x8 => ?_)
      refine im_istore 25 46 [some (.ref p0), some (.ref p1), some (.int q2), some (.int q3), some (.int x7), some (.int x8)] rfl rfl rfl ?_
      refine im_iload 26 48 rfl rfl ?_
      refine im_iconst 27 50 rfl rfl ?_
      refine im_jp (fun j90 => ∀ (x9 : Int32) (M3 : mm_T), im_I mi_D_foldConstants 7 162 G M0 sw_i (j90 x9 M3) 90 [some (.ref p0), some (.ref p1), some (.int x9), some (.int q3), none, none] [] M3) ?_ (fun j90 hj90 => ?_)
      · intro x9 M3
        show im_I mi_D_foldConstants 7 162 G M0 sw_i (_) 90 [some (.ref p0), some (.ref p1), some (.int x9), some (.int q3), none, none] [] M3
        refine im_iincL 46 90 (fun x10 => [some (.ref p0), some (.ref p1), some (.int x9), some (.int x10), none, none]) rfl rfl rfl rfl (fun _ => rfl) (fun x10 => ?_)
        refine im_goto 47 93 20 rfl (by decide) ?_
        exact im_less _ (by simp [lv_le]) (ih x9 x10 M3)
      refine im_jp (fun j60 => im_I mi_D_foldConstants 7 162 G M0 sw_i (j60) 60 [some (.ref p0), some (.ref p1), some (.int q2), some (.int q3), none, some (.int x8)] [] N) ?_ (fun j60 hj60 => ?_)
      · show im_I mi_D_foldConstants 7 162 G M0 sw_i (_) 60 [some (.ref p0), some (.ref p1), some (.int q2), some (.int q3), none, some (.int x8)] [] N
        refine im_iload 32 60 rfl rfl ?_
        refine im_iconst 33 62 rfl rfl ?_
        refine im_ic_eq 34 63 90 rfl (by decide) ?_ ?_
        · exact im_less _ (by simp [lv_le]) (hj90 q2 N)
        · refine im_aload_n 35 66 rfl rfl ?_
          refine im_getR 36 67 rfl fd_D_87 (by decide +kernel) (fun x11 => ?_)
          refine im_iload_n 37 70 rfl rfl ?_
          refine im_aload_n 38 71 rfl rfl ?_
          refine im_getR 39 72 rfl fd_D_87 (by decide +kernel) (fun x12 => ?_)
          refine im_iload_n 40 75 rfl rfl ?_
          refine im_ci (S := [.int q3, .ref x11]) (fun _ hv => cpV (fr' := 3) (lo' := 62) (i := 41) (As := [.int q3]) (S := [.int q3, .ref x11]) (a := x12) (c := 7) rfl lk_D_391 mw_P_definedAt mv_P_definedAt rfl ⟨by decide, rfl⟩ rfl rfl rfl (gd_some hv).1 (sp_P_definedAt G hv)) (fun x13 => ?_)
          refine im_iload 42 79 rfl rfl ?_
          refine im_ci (S := [.int q3, .ref x11]) (fun _ hv => cpS (fr' := 2) (lo' := 45) (i := 43) (As := [.int x13, .int x8]) (S := [.int q3, .ref x11]) rfl lk_D_352 mw_O_set mv_O_set rfl rfl rfl rfl (sp_O_set G hv)) (fun x14 => ?_)
          refine im_cWv (S := []) (fun _ hv => cpV (fr' := 2) (lo' := 42) (i := 44) (As := [.int q3, .int x14]) (S := []) (a := x11) (c := 7) rfl lk_D_394 mw_P_replace mv_P_replace rfl ⟨by decide, rfl⟩ rfl rfl rfl (gd_some hv).1 (sp_P_replace G hv)) (fun M4 => ?_)
          refine im_iincL 45 87 (fun x15 => [some (.ref p0), some (.ref p1), some (.int x15), some (.int q3), none, some (.int x8)]) rfl rfl rfl rfl (fun _ => rfl) (fun x15 => ?_)
          exact im_less _ (by simp [lv_le]) (hj90 x15 M4)
      refine im_ic_eq 28 51 60 rfl (by decide) ?_ ?_
      · exact im_less _ (by simp [lv_le]) (hj60)
      · refine im_iload 29 54 rfl rfl ?_
        refine im_iconst 30 56 rfl rfl ?_
        refine im_ic_ne 31 57 90 rfl (by decide) ?_ ?_
        · exact im_less _ (by simp [lv_le]) (hj90 q2 N)
        · exact im_less _ (by simp [lv_le]) (hj60)

set_option maxRecDepth 100000 in
set_option maxHeartbeats 4000000 in
theorem ip_D_foldConstants (G : gl_T) (t : Nat) (M : mm_T) : im_I mi_D_foldConstants 7 162 G M sw_i (ff_D_foldConstants t M) 0 [some (.ref t), none, none, none, none, none] [] M := by
  unfold ff_D_foldConstants
  refine im_gd (fun hg => ?_)
  refine im_aload_n 0 0 rfl rfl ?_
  refine im_cWr (S := []) (fun _ _ hv => cpV (fr' := 6) (lo' := 142) (i := 1) (As := []) (S := []) (a := t) (c := 10) rfl lk_D_284 mw_D_constants mv_D_constants rfl ⟨by decide, rfl⟩ rfl rfl rfl (gd_some hv).1 (sp_D_constants G hv)) (fun x1 M1 => ?_)
  refine im_astore_n 2 4 [some (.ref t), some (.ref x1), none, none, none, none] rfl rfl rfl ?_
  refine im_aload_n 3 5 rfl rfl ?_
  refine im_getR 4 6 rfl fd_D_33 (by decide +kernel) (fun x2 => ?_)
  refine im_aload_n 5 9 rfl rfl ?_
  refine im_getR 6 10 rfl fd_D_87 (by decide +kernel) (fun x3 => ?_)
  refine im_cWv (S := []) (fun _ hv => cpV (fr' := 3) (lo' := 63) (i := 7) (As := [.ref x3]) (S := []) (a := x2) (c := 3) rfl lk_D_368 mw_H_keep mv_H_keep rfl ⟨by decide, rfl⟩ rfl rfl rfl (gd_some hv).1 (sp_H_keep G hv)) (fun M2 => ?_)
  refine im_iconst 8 16 rfl rfl ?_
  refine im_istore_n 9 17 [some (.ref t), some (.ref x1), some (.int (0 : Int32)), none, none, none] rfl rfl rfl ?_
  refine im_iconst 10 18 rfl rfl ?_
  refine im_istore_n 11 19 [some (.ref t), some (.ref x1), some (.int (0 : Int32)), some (.int (0 : Int32)), none, none] rfl rfl rfl ?_
  refine im_less [some (.ref t), some (.ref x1), some (.int (0 : Int32)), some (.int (0 : Int32)), none, none] (by simp [lv_le]) ?_
  refine li_D_foldConstants_20 G M _ t x1 ?_ fu_L (0 : Int32) (0 : Int32) M2
  · intro x16 M5
    show im_I mi_D_foldConstants 7 162 G M sw_i (_) 96 [some (.ref t), none, some (.int x16), none, none, none] [] M5
    refine im_aload_n 48 96 rfl rfl ?_
    refine im_cWv (S := []) (fun _ hv => cpV (fr' := 1) (lo' := 20) (i := 49) (As := []) (S := []) (a := t) (c := 10) rfl lk_D_374 mw_D_forgetAnalyses mv_D_forgetAnalyses rfl ⟨by decide, rfl⟩ rfl rfl rfl (gd_some hv).1 (sp_D_forgetAnalyses G hv)) (fun M6 => ?_)
    refine im_iload_n 50 100 rfl rfl ?_
    exact im_end rfl (wp_ireturn 51 101 rfl rfl)

theorem sp_D_foldConstants (G : gl_T) {t : Nat} {M : mm_T} {y : Int32 × mm_T} (h : ff_D_foldConstants t M = some y) : sp_S mi_D_foldConstants 7 162 G [.ref t] M (sw_i y).1 (sw_i y).2 := sp_of mo_D_foldConstants mw_D_foldConstants (Or.inl (by decide +kernel)) rfl rfl (Or.inl rfl) (ip_D_foldConstants G t M y h)

set_option maxRecDepth 100000 in
set_option maxHeartbeats 4000000 in
theorem ip_W_clear (G : gl_T) (t : Nat) (M : mm_T) : im_I mi_W_clear 1 20 G M sw_v (ff_W_clear t M) 0 [some (.ref t)] [] M := by
  unfold ff_W_clear
  refine im_gd (fun hg => ?_)
  refine im_aload_n 0 0 rfl rfl ?_
  refine im_iconst 1 1 rfl rfl ?_
  refine im_putI 2 2 rfl fd_W_15 (Or.inl (by decide +kernel)) (by decide +kernel) (fun M1 => ?_)
  exact im_end rfl (wp_return 3 5 rfl rfl)

theorem sp_W_clear (G : gl_T) {t : Nat} {M : mm_T} {y : mm_T} (h : ff_W_clear t M = some y) : sp_S mi_W_clear 1 20 G [.ref t] M (sw_v y).1 (sw_v y).2 := sp_of mo_W_clear mw_W_clear (Or.inl (by decide +kernel)) rfl rfl (Or.inl rfl) (ip_W_clear G t M y h)

set_option maxRecDepth 100000 in
set_option maxHeartbeats 4000000 in
theorem ip_P_endOf (G : gl_T) (t : Nat) (a1 : Int32) (M : mm_T) : im_I mi_P_endOf 2 41 G M (sh_i M) (ff_P_endOf t a1 M) 0 [some (.ref t), some (.int a1)] [] M := by
  unfold ff_P_endOf
  refine im_gd (fun hg => ?_)
  refine im_aload_n 0 0 rfl rfl ?_
  refine im_getR 1 1 rfl fd_P_15 (by decide +kernel) (fun x1 => ?_)
  refine im_iload_n 2 4 rfl rfl ?_
  refine im_iconst 3 5 rfl rfl ?_
  refine im_iadd 4 6 rfl ?_
  refine im_ci (S := []) (fun _ hv => cpS (fr' := 1) (lo' := 20) (i := 5) (As := [.ref x1, .int (a1 + (1 : Int32))]) (S := []) rfl lk_P_41 mw_D_at_a mv_D_at_a rfl rfl rfl rfl (sp_D_at_a G hv)) (fun x2 => ?_)
  exact im_end rfl (wp_ireturn 6 10 rfl rfl)

theorem sp_P_endOf (G : gl_T) {t : Nat} {a1 : Int32} {M : mm_T} {y : Int32} (h : ff_P_endOf t a1 M = some y) : sp_S mi_P_endOf 2 41 G [.ref t, .int a1] M ((sh_i M) y).1 ((sh_i M) y).2 := sp_of mo_P_endOf mw_P_endOf (Or.inl (by decide +kernel)) rfl rfl (Or.inl rfl) (ip_P_endOf G t a1 M y h)

set_option maxRecDepth 100000 in
set_option maxHeartbeats 4000000 in
theorem ip_W_writeByte (G : gl_T) (t : Nat) (a1 : Int32) (M : mm_T) : im_I mi_W_writeByte 2 42 G M sw_v (ff_W_writeByte t a1 M) 0 [some (.ref t), some (.int a1)] [] M := by
  unfold ff_W_writeByte
  refine im_gd (fun hg => ?_)
  refine im_aload_n 0 0 rfl rfl ?_
  refine im_getR 1 1 rfl fd_W_9 (by decide +kernel) (fun x1 => ?_)
  refine im_aload_n 2 4 rfl rfl ?_
  refine im_getI 3 5 rfl fd_W_15 (by decide +kernel) (fun x2 => ?_)
  refine im_iload_n 4 8 rfl rfl ?_
  refine im_cWv (S := []) (fun _ hv => cpS (fr' := 1) (lo' := 20) (i := 5) (As := [.ref x1, .int x2, .int a1]) (S := []) rfl lk_W_87 mw_D_put_a mv_D_put_a rfl rfl rfl rfl (sp_D_put_a G hv)) (fun M1 => ?_)
  refine im_aload_n 6 12 rfl rfl ?_
  refine im_dup 7 13 rfl rfl ?_
  refine im_getI 8 14 rfl fd_W_15 (by decide +kernel) (fun x3 => ?_)
  refine im_iconst 9 17 rfl rfl ?_
  refine im_iadd 10 18 rfl ?_
  refine im_putI 11 19 rfl fd_W_15 (Or.inl (by decide +kernel)) (by decide +kernel) (fun M2 => ?_)
  exact im_end rfl (wp_return 12 22 rfl rfl)

theorem sp_W_writeByte (G : gl_T) {t : Nat} {a1 : Int32} {M : mm_T} {y : mm_T} (h : ff_W_writeByte t a1 M = some y) : sp_S mi_W_writeByte 2 42 G [.ref t, .int a1] M (sw_v y).1 (sw_v y).2 := sp_of mo_W_writeByte mw_W_writeByte (Or.inl (by decide +kernel)) rfl rfl (Or.inl rfl) (ip_W_writeByte G t a1 M y h)

set_option maxRecDepth 100000 in
set_option maxHeartbeats 4000000 in
theorem li_W_writeText_2 (G : gl_T) (M0 : mm_T) (p0 : Nat) (p1 : Nat) : ∀ (fu : Nat) (q2 : Int32) (N : mm_T), im_I mi_W_writeText 5 171 G M0 sw_v (lf_W_writeText_2 p0 p1 fu q2 N) 2 [some (.ref p0), some (.ref p1), some (.int q2)] [] N := by
  intro fu
  induction fu with
  | zero => intro _ _; exact im_none
  | succ fu ih =>
    intro q2 N
    show im_I mi_W_writeText 5 171 G M0 sw_v (lb_W_writeText_2 p0 p1 (lf_W_writeText_2 p0 p1 fu) q2 N) 2 [some (.ref p0), some (.ref p1), some (.int q2)] [] N
    unfold lb_W_writeText_2
    refine im_iload_n 2 2 rfl rfl ?_
    refine im_aload_n 3 3 rfl rfl ?_
    refine im_ci (S := [.int q2]) (fun _ hv => cp_len (i := 4) (S := [.int q2]) rfl lm_W_91 rfl rfl hv) (fun x1 => ?_)
    refine im_ic_ge 5 7 25 rfl (by decide) ?_ ?_
    · exact im_end rfl (wp_return 13 25 rfl rfl)
    · refine im_aload_n 6 10 rfl rfl ?_
      refine im_aload_n 7 11 rfl rfl ?_
      refine im_iload_n 8 12 rfl rfl ?_
      refine im_ci (S := [.ref p0]) (fun _ hv => cp_chr (i := 9) (S := [.ref p0]) rfl lm_W_96 rfl rfl hv) (fun x2 => ?_)
      refine im_cWv (S := []) (fun _ hv => cpV (fr' := 2) (lo' := 42) (i := 10) (As := [.int x2]) (S := []) (a := p0) (c := 9) rfl lk_W_66 mw_W_writeByte mv_W_writeByte rfl ⟨by decide, rfl⟩ rfl rfl rfl (gd_some hv).1 (sp_W_writeByte G hv)) (fun M1 => ?_)
      refine im_iincL 11 19 (fun x3 => [some (.ref p0), some (.ref p1), some (.int x3)]) rfl rfl rfl rfl (fun _ => rfl) (fun x3 => ?_)
      refine im_goto 12 22 2 rfl (by decide) ?_
      exact im_less _ (by simp [lv_le]) (ih x3 M1)

set_option maxRecDepth 100000 in
set_option maxHeartbeats 4000000 in
theorem ip_W_writeText (G : gl_T) (t : Nat) (a1 : Nat) (M : mm_T) : im_I mi_W_writeText 5 171 G M sw_v (ff_W_writeText t a1 M) 0 [some (.ref t), some (.ref a1), none] [] M := by
  unfold ff_W_writeText
  refine im_gd (fun hg => ?_)
  refine im_iconst 0 0 rfl rfl ?_
  refine im_istore_n 1 1 [some (.ref t), some (.ref a1), some (.int (0 : Int32))] rfl rfl rfl ?_
  refine im_less [some (.ref t), some (.ref a1), some (.int (0 : Int32))] (by simp [lv_le]) ?_
  exact li_W_writeText_2 G M t a1 fu_L (0 : Int32) M

theorem sp_W_writeText (G : gl_T) {t : Nat} {a1 : Nat} {M : mm_T} {y : mm_T} (h : ff_W_writeText t a1 M = some y) : sp_S mi_W_writeText 5 171 G [.ref t, .ref a1] M (sw_v y).1 (sw_v y).2 := sp_of mo_W_writeText mw_W_writeText (Or.inl (by decide +kernel)) rfl rfl (Or.inl rfl) (ip_W_writeText G t a1 M y h)

set_option maxRecDepth 100000 in
set_option maxHeartbeats 4000000 in
theorem ip_W_writeVariable (G : gl_T) (t : Nat) (a1 : Int32) (M : mm_T) : im_I mi_W_writeVariable 3 63 G M sw_v (ff_W_writeVariable t a1 M) 0 [some (.ref t), some (.int a1)] [] M := by
  unfold ff_W_writeVariable
  refine im_gd (fun hg => ?_)
  refine im_aload_n 0 0 rfl rfl ?_
  refine im_bipush 1 1 rfl rfl ?_
  refine im_cWv (S := []) (fun _ hv => cpV (fr' := 2) (lo' := 42) (i := 2) (As := [.int (32 : Int32)]) (S := []) (a := t) (c := 9) rfl lk_W_66 mw_W_writeByte mv_W_writeByte rfl ⟨by decide, rfl⟩ rfl rfl rfl (gd_some hv).1 (sp_W_writeByte G hv)) (fun M1 => ?_)
  refine im_aload_n 3 6 rfl rfl ?_
  refine im_bipush 4 7 rfl rfl ?_
  refine im_iload_n 5 9 rfl rfl ?_
  refine im_iadd 6 10 rfl ?_
  refine im_cWv (S := []) (fun _ hv => cpV (fr' := 2) (lo' := 42) (i := 7) (As := [.int ((97 : Int32) + a1)]) (S := []) (a := t) (c := 9) rfl lk_W_66 mw_W_writeByte mv_W_writeByte rfl ⟨by decide, rfl⟩ rfl rfl rfl (gd_some hv).1 (sp_W_writeByte G hv)) (fun M2 => ?_)
  exact im_end rfl (wp_return 8 14 rfl rfl)

theorem sp_W_writeVariable (G : gl_T) {t : Nat} {a1 : Int32} {M : mm_T} {y : mm_T} (h : ff_W_writeVariable t a1 M = some y) : sp_S mi_W_writeVariable 3 63 G [.ref t, .int a1] M (sw_v y).1 (sw_v y).2 := sp_of mo_W_writeVariable mw_W_writeVariable (Or.inl (by decide +kernel)) rfl rfl (Or.inl rfl) (ip_W_writeVariable G t a1 M y h)

set_option maxRecDepth 100000 in
set_option maxHeartbeats 4000000 in
theorem ip_W_writeNumber (G : gl_T) (t : Nat) (a1 : Int32) (M : mm_T) : im_I mi_W_writeNumber 3 63 G M sw_v (ff_W_writeNumber t a1 M) 0 [some (.ref t), some (.int a1)] [] M := by
  unfold ff_W_writeNumber
  refine im_gd (fun hg => ?_)
  refine im_aload_n 0 0 rfl rfl ?_
  refine im_bipush 1 1 rfl rfl ?_
  refine im_cWv (S := []) (fun _ hv => cpV (fr' := 2) (lo' := 42) (i := 2) (As := [.int (32 : Int32)]) (S := []) (a := t) (c := 9) rfl lk_W_66 mw_W_writeByte mv_W_writeByte rfl ⟨by decide, rfl⟩ rfl rfl rfl (gd_some hv).1 (sp_W_writeByte G hv)) (fun M1 => ?_)
  refine im_iload_n 3 6 rfl rfl ?_
  refine im_bipush 4 7 rfl rfl ?_
  refine im_jp (fun j23 => ∀  (M2 : mm_T), im_I mi_W_writeNumber 3 63 G M sw_v (j23 M2) 23 [some (.ref t), some (.int a1)] [] M2) ?_ (fun j23 hj23 => ?_)
  · intro M2
    show im_I mi_W_writeNumber 3 63 G M sw_v (_) 23 [some (.ref t), some (.int a1)] [] M2
    refine im_iload_n 13 23 rfl rfl ?_
    refine im_bipush 14 24 rfl rfl ?_
    refine im_jp (fun j43 => ∀  (M3 : mm_T), im_I mi_W_writeNumber 3 63 G M sw_v (j43 M3) 43 [some (.ref t), some (.int a1)] [] M3) ?_ (fun j43 hj43 => ?_)
    · intro M3
      show im_I mi_W_writeNumber 3 63 G M sw_v (_) 43 [some (.ref t), some (.int a1)] [] M3
      refine im_aload_n 25 43 rfl rfl ?_
      refine im_bipush 26 44 rfl rfl ?_
      refine im_iload_n 27 46 rfl rfl ?_
      refine im_bipush 28 47 rfl rfl ?_
      refine im_irem 29 49 rfl (fun x1 => ?_)
      refine im_iadd 30 50 rfl ?_
      refine im_cWv (S := []) (fun _ hv => cpV (fr' := 2) (lo' := 42) (i := 31) (As := [.int ((48 : Int32) + x1)]) (S := []) (a := t) (c := 9) rfl lk_W_66 mw_W_writeByte mv_W_writeByte rfl ⟨by decide, rfl⟩ rfl rfl rfl (gd_some hv).1 (sp_W_writeByte G hv)) (fun M4 => ?_)
      exact im_end rfl (wp_return 32 54 rfl rfl)
    refine im_ic_lt 15 26 43 rfl (by decide) ?_ ?_
    · exact im_less _ (by simp [lv_le]) (hj43 M2)
    · refine im_aload_n 16 29 rfl rfl ?_
      refine im_bipush 17 30 rfl rfl ?_
      refine im_iload_n 18 32 rfl rfl ?_
      refine im_bipush 19 33 rfl rfl ?_
      refine im_idiv 20 35 rfl (fun x2 => ?_)
      refine im_bipush 21 36 rfl rfl ?_
      refine im_irem 22 38 rfl (fun x3 => ?_)
      refine im_iadd 23 39 rfl ?_
      refine im_cWv (S := []) (fun _ hv => cpV (fr' := 2) (lo' := 42) (i := 24) (As := [.int ((48 : Int32) + x3)]) (S := []) (a := t) (c := 9) rfl lk_W_66 mw_W_writeByte mv_W_writeByte rfl ⟨by decide, rfl⟩ rfl rfl rfl (gd_some hv).1 (sp_W_writeByte G hv)) (fun M5 => ?_)
      exact im_less _ (by simp [lv_le]) (hj43 M5)
  refine im_ic_lt 5 9 23 rfl (by decide) ?_ ?_
  · exact im_less _ (by simp [lv_le]) (hj23 M1)
  · refine im_aload_n 6 12 rfl rfl ?_
    refine im_bipush 7 13 rfl rfl ?_
    refine im_iload_n 8 15 rfl rfl ?_
    refine im_bipush 9 16 rfl rfl ?_
    refine im_idiv 10 18 rfl (fun x4 => ?_)
    refine im_iadd 11 19 rfl ?_
    refine im_cWv (S := []) (fun _ hv => cpV (fr' := 2) (lo' := 42) (i := 12) (As := [.int ((48 : Int32) + x4)]) (S := []) (a := t) (c := 9) rfl lk_W_66 mw_W_writeByte mv_W_writeByte rfl ⟨by decide, rfl⟩ rfl rfl rfl (gd_some hv).1 (sp_W_writeByte G hv)) (fun M6 => ?_)
    exact im_less _ (by simp [lv_le]) (hj23 M6)

theorem sp_W_writeNumber (G : gl_T) {t : Nat} {a1 : Int32} {M : mm_T} {y : mm_T} (h : ff_W_writeNumber t a1 M = some y) : sp_S mi_W_writeNumber 3 63 G [.ref t, .int a1] M (sw_v y).1 (sw_v y).2 := sp_of mo_W_writeNumber mw_W_writeNumber (Or.inl (by decide +kernel)) rfl rfl (Or.inl rfl) (ip_W_writeNumber G t a1 M y h)

set_option maxRecDepth 100000 in
set_option maxHeartbeats 4000000 in
theorem ip_W_writeOperator (G : gl_T) (t : Nat) (a1 : Int32) (M : mm_T) : im_I mi_W_writeOperator 6 193 G M sw_v (ff_W_writeOperator t a1 M) 0 [some (.ref t), some (.int a1)] [] M := by
  unfold ff_W_writeOperator
  refine im_gd (fun hg => ?_)
  refine im_iload_n 0 0 rfl rfl ?_
  refine im_if_ne 1 1 13 rfl (by decide) ?_ ?_
  · refine im_aload_n 6 13 rfl rfl ?_
    refine im_iload_n 7 14 rfl rfl ?_
    refine im_iconst 8 15 rfl rfl ?_
    refine im_jp (fun j26 => ∀ (x1 : Nat), im_I mi_W_writeOperator 6 193 G M sw_v (j26 x1) 26 [none, none] [.ref x1, .ref t] M) ?_ (fun j26 hj26 => ?_)
    · intro x1
      show im_I mi_W_writeOperator 6 193 G M sw_v (_) 26 [none, none] [.ref x1, .ref t] M
      refine im_cWv (S := []) (fun _ hv => cpV (fr' := 5) (lo' := 171) (i := 13) (As := [.ref x1]) (S := []) (a := t) (c := 9) rfl lk_W_31 mw_W_writeText mv_W_writeText rfl ⟨by decide, rfl⟩ rfl rfl rfl (gd_some hv).1 (sp_W_writeText G hv)) (fun M1 => ?_)
      exact im_end rfl (wp_return 14 29 rfl rfl)
    refine im_ic_ne 9 16 24 rfl (by decide) ?_ ?_
    · refine im_ldcS 12 24 rfl (List.mem_of_getElem? (i := 30) rfl) ?_
      exact im_less _ (by simp [lv_le]) (hj26 ((st_B + 27)))
    · refine im_ldcS 10 19 rfl (List.mem_of_getElem? (i := 29) rfl) ?_
      refine im_goto 11 21 26 rfl (by decide) ?_
      exact im_less _ (by simp [lv_le]) (hj26 ((st_B + 26)))
  · refine im_aload_n 2 4 rfl rfl ?_
    refine im_ldcS 3 5 rfl (List.mem_of_getElem? (i := 28) rfl) ?_
    refine im_cWv (S := []) (fun _ hv => cpV (fr' := 5) (lo' := 171) (i := 4) (As := [.ref (st_B + 25)]) (S := []) (a := t) (c := 9) rfl lk_W_31 mw_W_writeText mv_W_writeText rfl ⟨by decide, rfl⟩ rfl rfl rfl (gd_some hv).1 (sp_W_writeText G hv)) (fun M2 => ?_)
    refine im_goto 5 10 29 rfl (by decide) ?_
    exact im_end rfl (wp_return 14 29 rfl rfl)

theorem sp_W_writeOperator (G : gl_T) {t : Nat} {a1 : Int32} {M : mm_T} {y : mm_T} (h : ff_W_writeOperator t a1 M = some y) : sp_S mi_W_writeOperator 6 193 G [.ref t, .int a1] M (sw_v y).1 (sw_v y).2 := sp_of mo_W_writeOperator mw_W_writeOperator (Or.inl (by decide +kernel)) rfl rfl (Or.inl rfl) (ip_W_writeOperator G t a1 M y h)

set_option maxRecDepth 100000 in
set_option maxHeartbeats 4000000 in
theorem ip_W_writeInstruction (G : gl_T) (t : Nat) (a1 : Int32) (M : mm_T) : im_I mi_W_writeInstruction 7 214 G M sw_v (ff_W_writeInstruction t a1 M) 0 [some (.ref t), some (.int a1), none] [] M := by
  unfold ff_W_writeInstruction
  refine im_gd (fun hg => ?_)
  refine im_iload_n 0 0 rfl rfl ?_
  refine im_ci (S := []) (fun _ hv => cpS (fr' := 1) (lo' := 20) (i := 1) (As := [.int a1]) (S := []) rfl lk_W_23 mw_O_kind mv_O_kind rfl rfl rfl rfl (sp_O_kind G hv)) (fun x1 => ?_)
  refine im_istore_n 2 4 [some (.ref t), some (.int a1), some (.int x1)] rfl rfl rfl ?_
  refine im_iload_n 3 5 rfl rfl ?_
  refine im_jp (fun j124 => ∀  (M1 : mm_T), im_I mi_W_writeInstruction 7 214 G M sw_v (j124 M1) 124 [some (.ref t), none, none] [] M1) ?_ (fun j124 hj124 => ?_)
  · intro M1
    show im_I mi_W_writeInstruction 7 214 G M sw_v (_) 124 [some (.ref t), none, none] [] M1
    refine im_aload_n 62 124 rfl rfl ?_
    refine im_bipush 63 125 rfl rfl ?_
    refine im_cWv (S := []) (fun _ hv => cpV (fr' := 2) (lo' := 42) (i := 64) (As := [.int (59 : Int32)]) (S := []) (a := t) (c := 9) rfl lk_W_66 mw_W_writeByte mv_W_writeByte rfl ⟨by decide, rfl⟩ rfl rfl rfl (gd_some hv).1 (sp_W_writeByte G hv)) (fun M2 => ?_)
    exact im_end rfl (wp_return 65 130 rfl rfl)
  refine im_if_ne 4 6 34 rfl (by decide) ?_ ?_
  · refine im_iload_n 17 34 rfl rfl ?_
    refine im_iconst 18 35 rfl rfl ?_
    refine im_ic_ne 19 36 64 rfl (by decide) ?_ ?_
    · refine im_iload_n 32 64 rfl rfl ?_
      refine im_iconst 33 65 rfl rfl ?_
      refine im_ic_ne 34 66 110 rfl (by decide) ?_ ?_
      · refine im_aload_n 55 110 rfl rfl ?_
        refine im_ldcS 56 111 rfl (List.mem_of_getElem? (i := 31) rfl) ?_
        refine im_cWv (S := []) (fun _ hv => cpV (fr' := 5) (lo' := 171) (i := 57) (As := [.ref (st_B + 5)]) (S := []) (a := t) (c := 9) rfl lk_W_31 mw_W_writeText mv_W_writeText rfl ⟨by decide, rfl⟩ rfl rfl rfl (gd_some hv).1 (sp_W_writeText G hv)) (fun M3 => ?_)
        refine im_aload_n 58 116 rfl rfl ?_
        refine im_iload_n 59 117 rfl rfl ?_
        refine im_ci (S := [.ref t]) (fun _ hv => cpS (fr' := 1) (lo' := 20) (i := 60) (As := [.int a1]) (S := [.ref t]) rfl lk_W_50 mw_O_left mv_O_left rfl rfl rfl rfl (sp_O_left G hv)) (fun x2 => ?_)
        refine im_cWv (S := []) (fun _ hv => cpV (fr' := 3) (lo' := 63) (i := 61) (As := [.int x2]) (S := []) (a := t) (c := 9) rfl lk_W_38 mw_W_writeVariable mv_W_writeVariable rfl ⟨by decide, rfl⟩ rfl rfl rfl (gd_some hv).1 (sp_W_writeVariable G hv)) (fun M4 => ?_)
        exact im_less _ (by simp [lv_le]) (hj124 M4)
      · refine im_aload_n 35 69 rfl rfl ?_
        refine im_ldcS 36 70 rfl (List.mem_of_getElem? (i := 27) rfl) ?_
        refine im_cWv (S := []) (fun _ hv => cpV (fr' := 5) (lo' := 171) (i := 37) (As := [.ref (st_B + 4)]) (S := []) (a := t) (c := 9) rfl lk_W_31 mw_W_writeText mv_W_writeText rfl ⟨by decide, rfl⟩ rfl rfl rfl (gd_some hv).1 (sp_W_writeText G hv)) (fun M5 => ?_)
        refine im_aload_n 38 75 rfl rfl ?_
        refine im_iload_n 39 76 rfl rfl ?_
        refine im_ci (S := [.ref t]) (fun _ hv => cpS (fr' := 1) (lo' := 20) (i := 40) (As := [.int a1]) (S := [.ref t]) rfl lk_W_35 mw_O_target mv_O_target rfl rfl rfl rfl (sp_O_target G hv)) (fun x3 => ?_)
        refine im_cWv (S := []) (fun _ hv => cpV (fr' := 3) (lo' := 63) (i := 41) (As := [.int x3]) (S := []) (a := t) (c := 9) rfl lk_W_38 mw_W_writeVariable mv_W_writeVariable rfl ⟨by decide, rfl⟩ rfl rfl rfl (gd_some hv).1 (sp_W_writeVariable G hv)) (fun M6 => ?_)
        refine im_aload_n 42 83 rfl rfl ?_
        refine im_iload_n 43 84 rfl rfl ?_
        refine im_ci (S := [.ref t]) (fun _ hv => cpS (fr' := 1) (lo' := 20) (i := 44) (As := [.int a1]) (S := [.ref t]) rfl lk_W_50 mw_O_left mv_O_left rfl rfl rfl rfl (sp_O_left G hv)) (fun x4 => ?_)
        refine im_cWv (S := []) (fun _ hv => cpV (fr' := 3) (lo' := 63) (i := 45) (As := [.int x4]) (S := []) (a := t) (c := 9) rfl lk_W_38 mw_W_writeVariable mv_W_writeVariable rfl ⟨by decide, rfl⟩ rfl rfl rfl (gd_some hv).1 (sp_W_writeVariable G hv)) (fun M7 => ?_)
        refine im_aload_n 46 91 rfl rfl ?_
        refine im_iload_n 47 92 rfl rfl ?_
        refine im_ci (S := [.ref t]) (fun _ hv => cpS (fr' := 1) (lo' := 20) (i := 48) (As := [.int a1]) (S := [.ref t]) rfl lk_W_55 mw_O_operator mv_O_operator rfl rfl rfl rfl (sp_O_operator G hv)) (fun x5 => ?_)
        refine im_cWv (S := []) (fun _ hv => cpV (fr' := 6) (lo' := 193) (i := 49) (As := [.int x5]) (S := []) (a := t) (c := 9) rfl lk_W_58 mw_W_writeOperator mv_W_writeOperator rfl ⟨by decide, rfl⟩ rfl rfl rfl (gd_some hv).1 (sp_W_writeOperator G hv)) (fun M8 => ?_)
        refine im_aload_n 50 99 rfl rfl ?_
        refine im_iload_n 51 100 rfl rfl ?_
        refine im_ci (S := [.ref t]) (fun _ hv => cpS (fr' := 1) (lo' := 20) (i := 52) (As := [.int a1]) (S := [.ref t]) rfl lk_W_61 mw_O_right mv_O_right rfl rfl rfl rfl (sp_O_right G hv)) (fun x6 => ?_)
        refine im_cWv (S := []) (fun _ hv => cpV (fr' := 3) (lo' := 63) (i := 53) (As := [.int x6]) (S := []) (a := t) (c := 9) rfl lk_W_38 mw_W_writeVariable mv_W_writeVariable rfl ⟨by decide, rfl⟩ rfl rfl rfl (gd_some hv).1 (sp_W_writeVariable G hv)) (fun M9 => ?_)
        refine im_goto 54 107 124 rfl (by decide) ?_
        exact im_less _ (by simp [lv_le]) (hj124 M9)
    · refine im_aload_n 20 39 rfl rfl ?_
      refine im_ldcS 21 40 rfl (List.mem_of_getElem? (i := 26) rfl) ?_
      refine im_cWv (S := []) (fun _ hv => cpV (fr' := 5) (lo' := 171) (i := 22) (As := [.ref (st_B + 3)]) (S := []) (a := t) (c := 9) rfl lk_W_31 mw_W_writeText mv_W_writeText rfl ⟨by decide, rfl⟩ rfl rfl rfl (gd_some hv).1 (sp_W_writeText G hv)) (fun M10 => ?_)
      refine im_aload_n 23 45 rfl rfl ?_
      refine im_iload_n 24 46 rfl rfl ?_
      refine im_ci (S := [.ref t]) (fun _ hv => cpS (fr' := 1) (lo' := 20) (i := 25) (As := [.int a1]) (S := [.ref t]) rfl lk_W_35 mw_O_target mv_O_target rfl rfl rfl rfl (sp_O_target G hv)) (fun x7 => ?_)
      refine im_cWv (S := []) (fun _ hv => cpV (fr' := 3) (lo' := 63) (i := 26) (As := [.int x7]) (S := []) (a := t) (c := 9) rfl lk_W_38 mw_W_writeVariable mv_W_writeVariable rfl ⟨by decide, rfl⟩ rfl rfl rfl (gd_some hv).1 (sp_W_writeVariable G hv)) (fun M11 => ?_)
      refine im_aload_n 27 53 rfl rfl ?_
      refine im_iload_n 28 54 rfl rfl ?_
      refine im_ci (S := [.ref t]) (fun _ hv => cpS (fr' := 1) (lo' := 20) (i := 29) (As := [.int a1]) (S := [.ref t]) rfl lk_W_50 mw_O_left mv_O_left rfl rfl rfl rfl (sp_O_left G hv)) (fun x8 => ?_)
      refine im_cWv (S := []) (fun _ hv => cpV (fr' := 3) (lo' := 63) (i := 30) (As := [.int x8]) (S := []) (a := t) (c := 9) rfl lk_W_38 mw_W_writeVariable mv_W_writeVariable rfl ⟨by decide, rfl⟩ rfl rfl rfl (gd_some hv).1 (sp_W_writeVariable G hv)) (fun M12 => ?_)
      refine im_goto 31 61 124 rfl (by decide) ?_
      exact im_less _ (by simp [lv_le]) (hj124 M12)
  · refine im_aload_n 5 9 rfl rfl ?_
    refine im_ldcS 6 10 rfl (List.mem_of_getElem? (i := 25) rfl) ?_
    refine im_cWv (S := []) (fun _ hv => cpV (fr' := 5) (lo' := 171) (i := 7) (As := [.ref (st_B + 2)]) (S := []) (a := t) (c := 9) rfl lk_W_31 mw_W_writeText mv_W_writeText rfl ⟨by decide, rfl⟩ rfl rfl rfl (gd_some hv).1 (sp_W_writeText G hv)) (fun M13 => ?_)
    refine im_aload_n 8 15 rfl rfl ?_
    refine im_iload_n 9 16 rfl rfl ?_
    refine im_ci (S := [.ref t]) (fun _ hv => cpS (fr' := 1) (lo' := 20) (i := 10) (As := [.int a1]) (S := [.ref t]) rfl lk_W_35 mw_O_target mv_O_target rfl rfl rfl rfl (sp_O_target G hv)) (fun x9 => ?_)
    refine im_cWv (S := []) (fun _ hv => cpV (fr' := 3) (lo' := 63) (i := 11) (As := [.int x9]) (S := []) (a := t) (c := 9) rfl lk_W_38 mw_W_writeVariable mv_W_writeVariable rfl ⟨by decide, rfl⟩ rfl rfl rfl (gd_some hv).1 (sp_W_writeVariable G hv)) (fun M14 => ?_)
    refine im_aload_n 12 23 rfl rfl ?_
    refine im_iload_n 13 24 rfl rfl ?_
    refine im_ci (S := [.ref t]) (fun _ hv => cpS (fr' := 1) (lo' := 20) (i := 14) (As := [.int a1]) (S := [.ref t]) rfl lk_W_42 mw_O_constant mv_O_constant rfl rfl rfl rfl (sp_O_constant G hv)) (fun x10 => ?_)
    refine im_cWv (S := []) (fun _ hv => cpV (fr' := 3) (lo' := 63) (i := 15) (As := [.int x10]) (S := []) (a := t) (c := 9) rfl lk_W_45 mw_W_writeNumber mv_W_writeNumber rfl ⟨by decide, rfl⟩ rfl rfl rfl (gd_some hv).1 (sp_W_writeNumber G hv)) (fun M15 => ?_)
    refine im_goto 16 31 124 rfl (by decide) ?_
    exact im_less _ (by simp [lv_le]) (hj124 M15)

theorem sp_W_writeInstruction (G : gl_T) {t : Nat} {a1 : Int32} {M : mm_T} {y : mm_T} (h : ff_W_writeInstruction t a1 M = some y) : sp_S mi_W_writeInstruction 7 214 G [.ref t, .int a1] M (sw_v y).1 (sw_v y).2 := sp_of mo_W_writeInstruction mw_W_writeInstruction (Or.inl (by decide +kernel)) rfl rfl (Or.inl rfl) (ip_W_writeInstruction G t a1 M y h)

set_option maxRecDepth 100000 in
set_option maxHeartbeats 4000000 in
theorem ip_W_writeExit (G : gl_T) (t : Nat) (a1 : Nat) (a2 : Int32) (M : mm_T) : im_I mi_W_writeExit 6 193 G M sw_v (ff_W_writeExit t a1 a2 M) 0 [some (.ref t), some (.ref a1), some (.int a2), none] [] M := by
  unfold ff_W_writeExit
  refine im_gd (fun hg => ?_)
  refine im_aload_n 0 0 rfl rfl ?_
  refine im_iload_n 1 1 rfl rfl ?_
  refine im_ci (S := []) (fun _ hv => cpV (fr' := 2) (lo' := 41) (i := 2) (As := [.int a2]) (S := []) (a := a1) (c := 7) rfl lk_W_69 mw_P_wayCount mv_P_wayCount rfl ⟨by decide, rfl⟩ rfl rfl rfl (gd_some hv).1 (sp_P_wayCount G hv)) (fun x1 => ?_)
  refine im_istore_n 3 5 [some (.ref t), some (.ref a1), some (.int a2), some (.int x1)] rfl rfl rfl ?_
  refine im_iload_n 4 6 rfl rfl ?_
  refine im_jp (fun j78 => ∀  (M1 : mm_T), im_I mi_W_writeExit 6 193 G M sw_v (j78 M1) 78 [some (.ref t), none, none, none] [] M1) ?_ (fun j78 hj78 => ?_)
  · intro M1
    show im_I mi_W_writeExit 6 193 G M sw_v (_) 78 [some (.ref t), none, none, none] [] M1
    refine im_aload_n 43 78 rfl rfl ?_
    refine im_bipush 44 79 rfl rfl ?_
    refine im_cWv (S := []) (fun _ hv => cpV (fr' := 2) (lo' := 42) (i := 45) (As := [.int (59 : Int32)]) (S := []) (a := t) (c := 9) rfl lk_W_66 mw_W_writeByte mv_W_writeByte rfl ⟨by decide, rfl⟩ rfl rfl rfl (gd_some hv).1 (sp_W_writeByte G hv)) (fun M2 => ?_)
    exact im_end rfl (wp_return 46 84 rfl rfl)
  refine im_if_ne 5 7 19 rfl (by decide) ?_ ?_
  · refine im_iload_n 10 19 rfl rfl ?_
    refine im_iconst 11 20 rfl rfl ?_
    refine im_ic_ne 12 21 43 rfl (by decide) ?_ ?_
    · refine im_aload_n 23 43 rfl rfl ?_
      refine im_ldcS 24 44 rfl (List.mem_of_getElem? (i := 34) rfl) ?_
      refine im_cWv (S := []) (fun _ hv => cpV (fr' := 5) (lo' := 171) (i := 25) (As := [.ref (st_B + 11)]) (S := []) (a := t) (c := 9) rfl lk_W_31 mw_W_writeText mv_W_writeText rfl ⟨by decide, rfl⟩ rfl rfl rfl (gd_some hv).1 (sp_W_writeText G hv)) (fun M3 => ?_)
      refine im_aload_n 26 49 rfl rfl ?_
      refine im_aload_n 27 50 rfl rfl ?_
      refine im_iload_n 28 51 rfl rfl ?_
      refine im_ci (S := [.ref t]) (fun _ hv => cpV (fr' := 2) (lo' := 41) (i := 29) (As := [.int a2]) (S := [.ref t]) (a := a1) (c := 7) rfl lk_W_84 mw_P_testedBy mv_P_testedBy rfl ⟨by decide, rfl⟩ rfl rfl rfl (gd_some hv).1 (sp_P_testedBy G hv)) (fun x2 => ?_)
      refine im_cWv (S := []) (fun _ hv => cpV (fr' := 3) (lo' := 63) (i := 30) (As := [.int x2]) (S := []) (a := t) (c := 9) rfl lk_W_38 mw_W_writeVariable mv_W_writeVariable rfl ⟨by decide, rfl⟩ rfl rfl rfl (gd_some hv).1 (sp_W_writeVariable G hv)) (fun M4 => ?_)
      refine im_aload_n 31 58 rfl rfl ?_
      refine im_aload_n 32 59 rfl rfl ?_
      refine im_iload_n 33 60 rfl rfl ?_
      refine im_iconst 34 61 rfl rfl ?_
      refine im_ci (S := [.ref t]) (fun _ hv => cpV (fr' := 2) (lo' := 41) (i := 35) (As := [.int a2, .int (0 : Int32)]) (S := [.ref t]) (a := a1) (c := 7) rfl lk_W_78 mw_P_wayOf mv_P_wayOf rfl ⟨by decide, rfl⟩ rfl rfl rfl (gd_some hv).1 (sp_P_wayOf G hv)) (fun x3 => ?_)
      refine im_cWv (S := []) (fun _ hv => cpV (fr' := 3) (lo' := 63) (i := 36) (As := [.int x3]) (S := []) (a := t) (c := 9) rfl lk_W_45 mw_W_writeNumber mv_W_writeNumber rfl ⟨by decide, rfl⟩ rfl rfl rfl (gd_some hv).1 (sp_W_writeNumber G hv)) (fun M5 => ?_)
      refine im_aload_n 37 68 rfl rfl ?_
      refine im_aload_n 38 69 rfl rfl ?_
      refine im_iload_n 39 70 rfl rfl ?_
      refine im_iconst 40 71 rfl rfl ?_
      refine im_ci (S := [.ref t]) (fun _ hv => cpV (fr' := 2) (lo' := 41) (i := 41) (As := [.int a2, .int (1 : Int32)]) (S := [.ref t]) (a := a1) (c := 7) rfl lk_W_78 mw_P_wayOf mv_P_wayOf rfl ⟨by decide, rfl⟩ rfl rfl rfl (gd_some hv).1 (sp_P_wayOf G hv)) (fun x4 => ?_)
      refine im_cWv (S := []) (fun _ hv => cpV (fr' := 3) (lo' := 63) (i := 42) (As := [.int x4]) (S := []) (a := t) (c := 9) rfl lk_W_45 mw_W_writeNumber mv_W_writeNumber rfl ⟨by decide, rfl⟩ rfl rfl rfl (gd_some hv).1 (sp_W_writeNumber G hv)) (fun M6 => ?_)
      exact im_less _ (by simp [lv_le]) (hj78 M6)
    · refine im_aload_n 13 24 rfl rfl ?_
      refine im_ldcS 14 25 rfl (List.mem_of_getElem? (i := 33) rfl) ?_
      refine im_cWv (S := []) (fun _ hv => cpV (fr' := 5) (lo' := 171) (i := 15) (As := [.ref (st_B + 10)]) (S := []) (a := t) (c := 9) rfl lk_W_31 mw_W_writeText mv_W_writeText rfl ⟨by decide, rfl⟩ rfl rfl rfl (gd_some hv).1 (sp_W_writeText G hv)) (fun M7 => ?_)
      refine im_aload_n 16 30 rfl rfl ?_
      refine im_aload_n 17 31 rfl rfl ?_
      refine im_iload_n 18 32 rfl rfl ?_
      refine im_iconst 19 33 rfl rfl ?_
      refine im_ci (S := [.ref t]) (fun _ hv => cpV (fr' := 2) (lo' := 41) (i := 20) (As := [.int a2, .int (0 : Int32)]) (S := [.ref t]) (a := a1) (c := 7) rfl lk_W_78 mw_P_wayOf mv_P_wayOf rfl ⟨by decide, rfl⟩ rfl rfl rfl (gd_some hv).1 (sp_P_wayOf G hv)) (fun x5 => ?_)
      refine im_cWv (S := []) (fun _ hv => cpV (fr' := 3) (lo' := 63) (i := 21) (As := [.int x5]) (S := []) (a := t) (c := 9) rfl lk_W_45 mw_W_writeNumber mv_W_writeNumber rfl ⟨by decide, rfl⟩ rfl rfl rfl (gd_some hv).1 (sp_W_writeNumber G hv)) (fun M8 => ?_)
      refine im_goto 22 40 78 rfl (by decide) ?_
      exact im_less _ (by simp [lv_le]) (hj78 M8)
  · refine im_aload_n 6 10 rfl rfl ?_
    refine im_ldcS 7 11 rfl (List.mem_of_getElem? (i := 32) rfl) ?_
    refine im_cWv (S := []) (fun _ hv => cpV (fr' := 5) (lo' := 171) (i := 8) (As := [.ref (st_B + 9)]) (S := []) (a := t) (c := 9) rfl lk_W_31 mw_W_writeText mv_W_writeText rfl ⟨by decide, rfl⟩ rfl rfl rfl (gd_some hv).1 (sp_W_writeText G hv)) (fun M9 => ?_)
    refine im_goto 9 16 78 rfl (by decide) ?_
    exact im_less _ (by simp [lv_le]) (hj78 M9)

theorem sp_W_writeExit (G : gl_T) {t : Nat} {a1 : Nat} {a2 : Int32} {M : mm_T} {y : mm_T} (h : ff_W_writeExit t a1 a2 M = some y) : sp_S mi_W_writeExit 6 193 G [.ref t, .ref a1, .int a2] M (sw_v y).1 (sw_v y).2 := sp_of mo_W_writeExit mw_W_writeExit (Or.inl (by decide +kernel)) rfl rfl (Or.inl rfl) (ip_W_writeExit G t a1 a2 M y h)

set_option maxRecDepth 100000 in
set_option maxHeartbeats 4000000 in
theorem li_D_writeBlock_21 (G : gl_T) (M0 : mm_T) (k0 : mm_T → Option ((Int32 ⊕ String) × mm_T)) (p0 : Nat) (p1 : Int32) (hk0 : ∀ (N : mm_T), im_I mi_D_writeBlock 8 236 G M0 sX_i (k0 N) 54 [some (.ref p0), some (.int p1), none] [] N) : ∀ (fu : Nat) (q2 : Int32) (N : mm_T), im_I mi_D_writeBlock 8 236 G M0 sX_i (lf_D_writeBlock_21 k0 p0 p1 fu q2 N) 21 [some (.ref p0), some (.int p1), some (.int q2)] [] N := by
  intro fu
  induction fu with
  | zero => intro _ _; exact im_none
  | succ fu ih =>
    intro q2 N
    show im_I mi_D_writeBlock 8 236 G M0 sX_i (lb_D_writeBlock_21 k0 p0 p1 (lf_D_writeBlock_21 k0 p0 p1 fu) q2 N) 21 [some (.ref p0), some (.int p1), some (.int q2)] [] N
    unfold lb_D_writeBlock_21
    refine im_iload_n 11 21 rfl rfl ?_
    refine im_aload_n 12 22 rfl rfl ?_
    refine im_getR 13 23 rfl fd_D_87 (by decide +kernel) (fun x4 => ?_)
    refine im_iload_n 14 26 rfl rfl ?_
    refine im_ci (S := [.int q2]) (fun _ hv => cpV (fr' := 2) (lo' := 41) (i := 15) (As := [.int p1]) (S := [.int q2]) (a := x4) (c := 7) rfl lk_D_403 mw_P_endOf mv_P_endOf rfl ⟨by decide, rfl⟩ rfl rfl rfl (gd_some hv).1 (sp_P_endOf G hv)) (fun x5 => ?_)
    refine im_ic_ge 16 30 54 rfl (by decide) ?_ ?_
    · exact im_less _ (by simp [lv_le]) (hk0 N)
    · refine im_aload_n 17 33 rfl rfl ?_
      refine im_getR 18 34 rfl fd_D_26 (by decide +kernel) (fun x6 => ?_)
      refine im_aload_n 19 37 rfl rfl ?_
      refine im_getR 20 38 rfl fd_D_87 (by decide +kernel) (fun x7 => ?_)
      refine im_iload_n 21 41 rfl rfl ?_
      refine im_ci (S := [.ref x6]) (fun _ hv => cpV (fr' := 2) (lo' := 41) (i := 22) (As := [.int q2]) (S := [.ref x6]) (a := x7) (c := 7) rfl lk_D_406 mw_P_word mv_P_word rfl ⟨by decide, rfl⟩ rfl rfl rfl (gd_some hv).1 (sp_P_word G hv)) (fun x8 => ?_)
      refine im_cWv (S := []) (fun _ hv => cpV (fr' := 7) (lo' := 214) (i := 23) (As := [.int x8]) (S := []) (a := x6) (c := 9) rfl lk_D_409 mw_W_writeInstruction mv_W_writeInstruction rfl ⟨by decide, rfl⟩ rfl rfl rfl (gd_some hv).1 (sp_W_writeInstruction G hv)) (fun M2 => ?_)
      refine im_iincL 24 48 (fun x9 => [some (.ref p0), some (.int p1), some (.int x9)]) rfl rfl rfl rfl (fun _ => rfl) (fun x9 => ?_)
      refine im_goto 25 51 21 rfl (by decide) ?_
      exact im_less _ (by simp [lv_le]) (ih x9 M2)

set_option maxRecDepth 100000 in
set_option maxHeartbeats 4000000 in
theorem ip_D_writeBlock (G : gl_T) (t : Nat) (a1 : Int32) (M : mm_T) : im_I mi_D_writeBlock 8 236 G M sX_i (ff_D_writeBlock t a1 M) 0 [some (.ref t), some (.int a1), none] [] M := by
  unfold ff_D_writeBlock
  refine im_gd (fun hg => ?_)
  refine im_aload_n 0 0 rfl rfl ?_
  refine im_iload_n 1 1 rfl rfl ?_
  refine im_rq (S := []) (fun hv => cpV (fr' := 6) (lo' := 90) (i := 2) (As := [.int a1]) (S := []) (a := t) (c := 10) rfl lk_D_137 mw_D_requireBlock mv_D_requireBlock rfl ⟨by decide, rfl⟩ rfl rfl rfl (gd_some hv).1 (sp_D_requireBlock G hv)) (fun _ hv => xpV (fr' := 6) (lo' := 90) (i := 2) (As := [.int a1]) (S := []) (a := t) (c := 10) rfl lm_D_137 mw_D_requireBlock mv_D_requireBlock rfl ⟨by decide, rfl⟩ rfl rfl rfl (gd_some hv).1 (sp_D_requireBlock G hv) (tw_out rfl)) (fun _ => rfl) ?_
  refine im_aload_n 3 5 rfl rfl ?_
  refine im_getR 4 6 rfl fd_D_26 (by decide +kernel) (fun x1 => ?_)
  refine im_cWv (S := []) (fun _ hv => cpV (fr' := 1) (lo' := 20) (i := 5) (As := []) (S := []) (a := x1) (c := 9) rfl lk_D_397 mw_W_clear mv_W_clear rfl ⟨by decide, rfl⟩ rfl rfl rfl (gd_some hv).1 (sp_W_clear G hv)) (fun M1 => ?_)
  refine im_aload_n 6 12 rfl rfl ?_
  refine im_getR 7 13 rfl fd_D_87 (by decide +kernel) (fun x2 => ?_)
  refine im_iload_n 8 16 rfl rfl ?_
  refine im_ci (S := []) (fun _ hv => cpV (fr' := 2) (lo' := 41) (i := 9) (As := [.int a1]) (S := []) (a := x2) (c := 7) rfl lk_D_400 mw_P_startOf mv_P_startOf rfl ⟨by decide, rfl⟩ rfl rfl rfl (gd_some hv).1 (sp_P_startOf G hv)) (fun x3 => ?_)
  refine im_istore_n 10 20 [some (.ref t), some (.int a1), some (.int x3)] rfl rfl rfl ?_
  refine im_less [some (.ref t), some (.int a1), some (.int x3)] (by simp [lv_le]) ?_
  refine li_D_writeBlock_21 G M _ t a1 ?_ fu_L x3 M1
  · intro M3
    show im_I mi_D_writeBlock 8 236 G M sX_i (_) 54 [some (.ref t), some (.int a1), none] [] M3
    refine im_aload_n 26 54 rfl rfl ?_
    refine im_getR 27 55 rfl fd_D_26 (by decide +kernel) (fun x10 => ?_)
    refine im_aload_n 28 58 rfl rfl ?_
    refine im_getR 29 59 rfl fd_D_87 (by decide +kernel) (fun x11 => ?_)
    refine im_iload_n 30 62 rfl rfl ?_
    refine im_cWv (S := []) (fun _ hv => cpV (fr' := 6) (lo' := 193) (i := 31) (As := [.ref x11, .int a1]) (S := []) (a := x10) (c := 9) rfl lk_D_412 mw_W_writeExit mv_W_writeExit rfl ⟨by decide, rfl⟩ rfl rfl rfl (gd_some hv).1 (sp_W_writeExit G hv)) (fun M4 => ?_)
    refine im_aload_n 32 66 rfl rfl ?_
    refine im_getR 33 67 rfl fd_D_26 (by decide +kernel) (fun x12 => ?_)
    refine im_getI 34 70 rfl fd_D_415 (by decide +kernel) (fun x13 => ?_)
    exact im_end rfl (wp_ireturn 35 73 rfl rfl)

theorem sp_D_writeBlock (G : gl_T) {t : Nat} {a1 : Int32} {M : mm_T} {y : (Int32 ⊕ String) × mm_T} (h : ff_D_writeBlock t a1 M = some y) : sp_S mi_D_writeBlock 8 236 G [.ref t, .int a1] M (sX_i y).1 (sX_i y).2 := sp_of mo_D_writeBlock mw_D_writeBlock (Or.inl (by decide +kernel)) rfl rfl (Or.inl rfl) (ip_D_writeBlock G t a1 M y h)

set_option maxRecDepth 100000 in
set_option maxHeartbeats 4000000 in
theorem ip_W_byteAt (G : gl_T) (t : Nat) (a1 : Int32) (M : mm_T) : im_I mi_W_byteAt 2 41 G M (sh_i M) (ff_W_byteAt t a1 M) 0 [some (.ref t), some (.int a1)] [] M := by
  unfold ff_W_byteAt
  refine im_gd (fun hg => ?_)
  refine im_iload_n 0 0 rfl rfl ?_
  refine im_if_lt 1 1 23 rfl (by decide) ?_ ?_
  · refine im_iconst 11 23 rfl rfl ?_
    exact im_end rfl (wp_ireturn 12 24 rfl rfl)
  · refine im_iload_n 2 4 rfl rfl ?_
    refine im_aload_n 3 5 rfl rfl ?_
    refine im_getI 4 6 rfl fd_W_15 (by decide +kernel) (fun x1 => ?_)
    refine im_ic_ge 5 9 23 rfl (by decide) ?_ ?_
    · refine im_iconst 11 23 rfl rfl ?_
      exact im_end rfl (wp_ireturn 12 24 rfl rfl)
    · refine im_aload_n 6 12 rfl rfl ?_
      refine im_getR 7 13 rfl fd_W_9 (by decide +kernel) (fun x2 => ?_)
      refine im_iload_n 8 16 rfl rfl ?_
      refine im_ci (S := []) (fun _ hv => cpS (fr' := 1) (lo' := 20) (i := 9) (As := [.ref x2, .int a1]) (S := []) rfl lk_W_19 mw_D_at_a mv_D_at_a rfl rfl rfl rfl (sp_D_at_a G hv)) (fun x3 => ?_)
      refine im_goto 10 20 24 rfl (by decide) ?_
      exact im_end rfl (wp_ireturn 12 24 rfl rfl)

theorem sp_W_byteAt (G : gl_T) {t : Nat} {a1 : Int32} {M : mm_T} {y : Int32} (h : ff_W_byteAt t a1 M = some y) : sp_S mi_W_byteAt 2 41 G [.ref t, .int a1] M ((sh_i M) y).1 ((sh_i M) y).2 := sp_of mo_W_byteAt mw_W_byteAt (Or.inl (by decide +kernel)) rfl rfl (Or.inl rfl) (ip_W_byteAt G t a1 M y h)

set_option maxRecDepth 100000 in
set_option maxHeartbeats 4000000 in
theorem ip_D_outputByte (G : gl_T) (t : Nat) (a1 : Int32) (M : mm_T) : im_I mi_D_outputByte 3 62 G M (sh_i M) (ff_D_outputByte t a1 M) 0 [some (.ref t), some (.int a1)] [] M := by
  unfold ff_D_outputByte
  refine im_gd (fun hg => ?_)
  refine im_aload_n 0 0 rfl rfl ?_
  refine im_getR 1 1 rfl fd_D_26 (by decide +kernel) (fun x1 => ?_)
  refine im_iload_n 2 4 rfl rfl ?_
  refine im_ci (S := []) (fun _ hv => cpV (fr' := 2) (lo' := 41) (i := 3) (As := [.int a1]) (S := []) (a := x1) (c := 9) rfl lk_D_418 mw_W_byteAt mv_W_byteAt rfl ⟨by decide, rfl⟩ rfl rfl rfl (gd_some hv).1 (sp_W_byteAt G hv)) (fun x2 => ?_)
  exact im_end rfl (wp_ireturn 4 8 rfl rfl)

theorem sp_D_outputByte (G : gl_T) {t : Nat} {a1 : Int32} {M : mm_T} {y : Int32} (h : ff_D_outputByte t a1 M = some y) : sp_S mi_D_outputByte 3 62 G [.ref t, .int a1] M ((sh_i M) y).1 ((sh_i M) y).2 := sp_of mo_D_outputByte mw_D_outputByte (Or.inl (by decide +kernel)) rfl rfl (Or.inl rfl) (ip_D_outputByte G t a1 M y h)

set_option maxRecDepth 100000 in
set_option maxHeartbeats 4000000 in
theorem ip_H_takeBack (G : gl_T) (t : Nat) (a1 : Nat) (M : mm_T) : im_I mi_H_takeBack 3 63 G M sw_i (ff_H_takeBack t a1 M) 0 [some (.ref t), some (.ref a1), none, none] [] M := by
  unfold ff_H_takeBack
  refine im_gd (fun hg => ?_)
  refine im_aload_n 0 0 rfl rfl ?_
  refine im_getI 1 1 rfl fd_H_21 (by decide +kernel) (fun x1 => ?_)
  refine im_jp (fun j17 => ∀ (x2 : Int32), im_I mi_H_takeBack 3 63 G M sw_i (j17 x2) 17 [some (.ref t), some (.ref a1), none, none] [.int x2] M) ?_ (fun j17 hj17 => ?_)
  · intro x2
    show im_I mi_H_takeBack 3 63 G M sw_i (_) 17 [some (.ref t), some (.ref a1), none, none] [.int x2] M
    refine im_istore_n 9 17 [some (.ref t), some (.ref a1), some (.int x2), none] rfl rfl rfl ?_
    refine im_aload_n 10 18 rfl rfl ?_
    refine im_getI 11 19 rfl fd_H_17 (by decide +kernel) (fun x3 => ?_)
    refine im_if_eq 12 22 34 rfl (by decide) ?_ ?_
    · refine im_iconst 18 34 rfl rfl ?_
      exact im_end rfl (wp_zreturn 19 35 (ty := .boolean) rfl (by first | exact nz_0 | exact nz_1) rfl)
    · refine im_iload_n 13 25 rfl rfl ?_
      refine im_aload_n 14 26 rfl rfl ?_
      refine im_getR 15 27 rfl fd_H_11 (by decide +kernel) (fun x4 => ?_)
      refine im_arraylength 16 30 rfl (fun x5 => ?_)
      refine im_ic_lt 17 31 36 rfl (by decide) ?_ ?_
      · refine im_aload_n 20 36 rfl rfl ?_
        refine im_getR 21 37 rfl fd_H_11 (by decide +kernel) (fun x6 => ?_)
        refine im_iload_n 22 40 rfl rfl ?_
        refine im_aaload 23 41 rfl (fun x7 => ?_)
        refine im_astore_n 24 42 [some (.ref t), some (.ref a1), some (.int x2), some (.ref x7)] rfl rfl rfl ?_
        refine im_aload_n 25 43 rfl rfl ?_
        refine im_ifnonnull 26 44 49 rfl (by decide) ?_ ?_
        · refine im_aload_n 29 49 rfl rfl ?_
          refine im_aload_n 30 50 rfl rfl ?_
          refine im_cWv (S := []) (fun _ hv => cpV (fr' := 2) (lo' := 42) (i := 31) (As := [.ref x7]) (S := []) (a := a1) (c := 7) rfl lk_H_25 mw_P_copyFrom mv_P_copyFrom rfl ⟨by decide, rfl⟩ rfl rfl rfl (gd_some hv).1 (sp_P_copyFrom G hv)) (fun M1 => ?_)
          refine im_aload_n 32 54 rfl rfl ?_
          refine im_iload_n 33 55 rfl rfl ?_
          refine im_putI 34 56 rfl fd_H_21 (Or.inl (by decide +kernel)) (by decide +kernel) (fun M2 => ?_)
          refine im_aload_n 35 59 rfl rfl ?_
          refine im_dup 36 60 rfl rfl ?_
          refine im_getI 37 61 rfl fd_H_17 (by decide +kernel) (fun x8 => ?_)
          refine im_iconst 38 64 rfl rfl ?_
          refine im_isub 39 65 rfl ?_
          refine im_putI 40 66 rfl fd_H_17 (Or.inl (by decide +kernel)) (by decide +kernel) (fun M3 => ?_)
          refine im_iconst 41 69 rfl rfl ?_
          exact im_end rfl (wp_zreturn 42 70 (ty := .boolean) rfl (by first | exact nz_0 | exact nz_1) rfl)
        · refine im_iconst 27 47 rfl rfl ?_
          exact im_end rfl (wp_zreturn 28 48 (ty := .boolean) rfl (by first | exact nz_0 | exact nz_1) rfl)
      · refine im_iconst 18 34 rfl rfl ?_
        exact im_end rfl (wp_zreturn 19 35 (ty := .boolean) rfl (by first | exact nz_0 | exact nz_1) rfl)
  refine im_if_le 2 4 16 rfl (by decide) ?_ ?_
  · refine im_iconst 8 16 rfl rfl ?_
    exact im_less _ (by simp [lv_le]) (hj17 (5 : Int32))
  · refine im_aload_n 3 7 rfl rfl ?_
    refine im_getI 4 8 rfl fd_H_21 (by decide +kernel) (fun x9 => ?_)
    refine im_iconst 5 11 rfl rfl ?_
    refine im_isub 6 12 rfl ?_
    refine im_goto 7 13 17 rfl (by decide) ?_
    exact im_less _ (by simp [lv_le]) (hj17 ((x9 - (1 : Int32))))

theorem sp_H_takeBack (G : gl_T) {t : Nat} {a1 : Nat} {M : mm_T} {y : Int32 × mm_T} (h : ff_H_takeBack t a1 M = some y) : sp_S mi_H_takeBack 3 63 G [.ref t, .ref a1] M (sw_i y).1 (sw_i y).2 := sp_of mo_H_takeBack mw_H_takeBack (Or.inl (by decide +kernel)) rfl rfl (Or.inl rfl) (ip_H_takeBack G t a1 M y h)

set_option maxRecDepth 100000 in
set_option maxHeartbeats 4000000 in
theorem ip_D_undo (G : gl_T) (t : Nat) (M : mm_T) : im_I mi_D_undo 6 90 G M sX_i (ff_D_undo t M) 0 [some (.ref t)] [] M := by
  unfold ff_D_undo
  refine im_gd (fun hg => ?_)
  refine im_aload_n 0 0 rfl rfl ?_
  refine im_getR 1 1 rfl fd_D_33 (by decide +kernel) (fun x1 => ?_)
  refine im_aload_n 2 4 rfl rfl ?_
  refine im_getR 3 5 rfl fd_D_87 (by decide +kernel) (fun x2 => ?_)
  refine im_cWi (S := []) (fun _ _ hv => cpV (fr' := 3) (lo' := 63) (i := 4) (As := [.ref x2]) (S := []) (a := x1) (c := 3) rfl lk_D_421 mw_H_takeBack mv_H_takeBack rfl ⟨by decide, rfl⟩ rfl rfl rfl (gd_some hv).1 (sp_H_takeBack G hv)) (fun x3 M1 => ?_)
  refine im_if_ne 5 11 25 rfl (by decide) ?_ ?_
  · refine im_aload_n 11 25 rfl rfl ?_
    refine im_cWv (S := []) (fun _ hv => cpV (fr' := 1) (lo' := 20) (i := 12) (As := []) (S := []) (a := t) (c := 10) rfl lk_D_374 mw_D_forgetAnalyses mv_D_forgetAnalyses rfl ⟨by decide, rfl⟩ rfl rfl rfl (gd_some hv).1 (sp_D_forgetAnalyses G hv)) (fun M2 => ?_)
    refine im_aload_n 13 29 rfl rfl ?_
    refine im_getR 14 30 rfl fd_D_33 (by decide +kernel) (fun x4 => ?_)
    refine im_getI 15 33 rfl fd_D_426 (by decide +kernel) (fun x5 => ?_)
    exact im_end rfl (wp_ireturn 16 36 rfl rfl)
  · exact im_endX rfl (wp_throwW (i := 6) th_D_94_424_98 rfl rfl rfl rfl rfl rfl rfl rfl rfl rfl)

theorem sp_D_undo (G : gl_T) {t : Nat} {M : mm_T} {y : (Int32 ⊕ String) × mm_T} (h : ff_D_undo t M = some y) : sp_S mi_D_undo 6 90 G [.ref t] M (sX_i y).1 (sX_i y).2 := sp_of mo_D_undo mw_D_undo (Or.inl (by decide +kernel)) rfl rfl (Or.inl rfl) (ip_D_undo G t M y h)

set_option maxRecDepth 100000 in
set_option maxHeartbeats 4000000 in
theorem ip_D_saveSnapshot (G : gl_T) (t : Nat) (a1 : Int32) (M : mm_T) : im_I mi_D_saveSnapshot 6 90 G M sX_v (ff_D_saveSnapshot t a1 M) 0 [some (.ref t), some (.int a1), none] [] M := by
  unfold ff_D_saveSnapshot
  refine im_gd (fun hg => ?_)
  refine im_iload_n 0 0 rfl rfl ?_
  refine im_jp (fun j13 => im_I mi_D_saveSnapshot 6 90 G M sX_v (j13) 13 [none, none, none] [] M) ?_ (fun j13 hj13 => ?_)
  · show im_I mi_D_saveSnapshot 6 90 G M sX_v (_) 13 [none, none, none] [] M
    exact im_endX rfl (wp_throwW (i := 7) th_D_105_429_109 rfl rfl rfl rfl rfl rfl rfl rfl rfl rfl)
  refine im_if_lt 1 1 13 rfl (by decide) ?_ ?_
  · exact im_less _ (by simp [lv_le]) (hj13)
  · refine im_iload_n 2 4 rfl rfl ?_
    refine im_aload_n 3 5 rfl rfl ?_
    refine im_getR 4 6 rfl fd_D_37 (by decide +kernel) (fun x1 => ?_)
    refine im_arraylength 5 9 rfl (fun x2 => ?_)
    refine im_ic_lt 6 10 24 rfl (by decide) ?_ ?_
    · refine im_aload_n 12 24 rfl rfl ?_
      refine im_getR 13 25 rfl fd_D_37 (by decide +kernel) (fun x3 => ?_)
      refine im_iload_n 14 28 rfl rfl ?_
      refine im_aaload 15 29 rfl (fun x4 => ?_)
      refine im_astore_n 16 30 [some (.ref t), some (.int a1), some (.ref x4)] rfl rfl rfl ?_
      refine im_aload_n 17 31 rfl rfl ?_
      refine im_jp (fun j50 => ∀ (x5 : Nat) (M1 : mm_T), im_I mi_D_saveSnapshot 6 90 G M sX_v (j50 x5 M1) 50 [some (.ref t), none, some (.ref x5)] [] M1) ?_ (fun j50 hj50 => ?_)
      · intro x5 M1
        show im_I mi_D_saveSnapshot 6 90 G M sX_v (_) 50 [some (.ref t), none, some (.ref x5)] [] M1
        refine im_aload_n 28 50 rfl rfl ?_
        refine im_aload_n 29 51 rfl rfl ?_
        refine im_getR 30 52 rfl fd_D_87 (by decide +kernel) (fun x6 => ?_)
        refine im_cWv (S := []) (fun _ hv => cpV (fr' := 2) (lo' := 42) (i := 31) (As := [.ref x6]) (S := []) (a := x5) (c := 7) rfl lk_D_431 mw_P_copyFrom mv_P_copyFrom rfl ⟨by decide, rfl⟩ rfl rfl rfl (gd_some hv).1 (sp_P_copyFrom G hv)) (fun M2 => ?_)
        exact im_end rfl (wp_return 32 58 rfl rfl)
      refine im_ifnonnull 18 32 50 rfl (by decide) ?_ ?_
      · exact im_less _ (by simp [lv_le]) (hj50 x4 M)
      · refine im_new 19 35 rfl nw_D_7 (fun x7 M3 => ?_)
        refine im_dup 20 38 rfl rfl ?_
        refine im_cWv (S := [.ref x7]) (fun _ hv => cpI (fr' := 1) (lo' := 20) (i := 21) (As := []) (S := [.ref x7]) (a := x7) rfl lk_D_9 mw_P_init mv_P_init rfl ⟨rfl, rfl⟩ rfl rfl rfl (gd_in (gd_some hv).1 (by decide)) (sp_P_init G hv)) (fun M4 => ?_)
        refine im_astore_n 22 42 [some (.ref t), some (.int a1), some (.ref x7)] rfl rfl rfl ?_
        refine im_aload_n 23 43 rfl rfl ?_
        refine im_getR 24 44 rfl fd_D_37 (by decide +kernel) (fun x8 => ?_)
        refine im_iload_n 25 47 rfl rfl ?_
        refine im_aload_n 26 48 rfl rfl ?_
        refine im_aastore 27 49 rfl (fun M5 => ?_)
        exact im_less _ (by simp [lv_le]) (hj50 x7 M5)
    · exact im_less _ (by simp [lv_le]) (hj13)

theorem sp_D_saveSnapshot (G : gl_T) {t : Nat} {a1 : Int32} {M : mm_T} {y : (Unit ⊕ String) × mm_T} (h : ff_D_saveSnapshot t a1 M = some y) : sp_S mi_D_saveSnapshot 6 90 G [.ref t, .int a1] M (sX_v y).1 (sX_v y).2 := sp_of mo_D_saveSnapshot mw_D_saveSnapshot (Or.inl (by decide +kernel)) rfl rfl (Or.inl rfl) (ip_D_saveSnapshot G t a1 M y h)

set_option maxRecDepth 100000 in
set_option maxHeartbeats 4000000 in
theorem ip_D_restoreSnapshot (G : gl_T) (t : Nat) (a1 : Int32) (M : mm_T) : im_I mi_D_restoreSnapshot 6 90 G M sX_v (ff_D_restoreSnapshot t a1 M) 0 [some (.ref t), some (.int a1), none] [] M := by
  unfold ff_D_restoreSnapshot
  refine im_gd (fun hg => ?_)
  refine im_iload_n 0 0 rfl rfl ?_
  refine im_jp (fun j13 => im_I mi_D_restoreSnapshot 6 90 G M sX_v (j13) 13 [none, none, none] [] M) ?_ (fun j13 hj13 => ?_)
  · show im_I mi_D_restoreSnapshot 6 90 G M sX_v (_) 13 [none, none, none] [] M
    exact im_endX rfl (wp_throwW (i := 7) th_D_105_429_109 rfl rfl rfl rfl rfl rfl rfl rfl rfl rfl)
  refine im_if_lt 1 1 13 rfl (by decide) ?_ ?_
  · exact im_less _ (by simp [lv_le]) (hj13)
  · refine im_iload_n 2 4 rfl rfl ?_
    refine im_aload_n 3 5 rfl rfl ?_
    refine im_getR 4 6 rfl fd_D_37 (by decide +kernel) (fun x1 => ?_)
    refine im_arraylength 5 9 rfl (fun x2 => ?_)
    refine im_ic_lt 6 10 24 rfl (by decide) ?_ ?_
    · refine im_aload_n 12 24 rfl rfl ?_
      refine im_getR 13 25 rfl fd_D_37 (by decide +kernel) (fun x3 => ?_)
      refine im_iload_n 14 28 rfl rfl ?_
      refine im_aaload 15 29 rfl (fun x4 => ?_)
      refine im_astore_n 16 30 [some (.ref t), some (.int a1), some (.ref x4)] rfl rfl rfl ?_
      refine im_aload_n 17 31 rfl rfl ?_
      refine im_ifnonnull 18 32 46 rfl (by decide) ?_ ?_
      · refine im_aload_n 24 46 rfl rfl ?_
        refine im_aload_n 25 47 rfl rfl ?_
        refine im_cWv (S := []) (fun _ hv => cpV (fr' := 3) (lo' := 63) (i := 26) (As := [.ref x4]) (S := []) (a := t) (c := 10) rfl lk_D_120 mw_D_replaceProgram mv_D_replaceProgram rfl ⟨by decide, rfl⟩ rfl rfl rfl (gd_some hv).1 (sp_D_replaceProgram G hv)) (fun M1 => ?_)
        exact im_end rfl (wp_return 27 51 rfl rfl)
      · exact im_endX rfl (wp_throwW (i := 19) th_D_94_434_98 rfl rfl rfl rfl rfl rfl rfl rfl rfl rfl)
    · exact im_less _ (by simp [lv_le]) (hj13)

theorem sp_D_restoreSnapshot (G : gl_T) {t : Nat} {a1 : Int32} {M : mm_T} {y : (Unit ⊕ String) × mm_T} (h : ff_D_restoreSnapshot t a1 M = some y) : sp_S mi_D_restoreSnapshot 6 90 G [.ref t, .int a1] M (sX_v y).1 (sX_v y).2 := sp_of mo_D_restoreSnapshot mw_D_restoreSnapshot (Or.inl (by decide +kernel)) rfl rfl (Or.inl rfl) (ip_D_restoreSnapshot G t a1 M y h)

set_option maxRecDepth 100000 in
set_option maxHeartbeats 4000000 in
theorem ip_M_get (G : gl_T) (t : Nat) (a1 : Int32) (M : mm_T) : im_I mi_M_get 1 20 G M (sh_i M) (ff_M_get t a1 M) 0 [some (.ref t), some (.int a1)] [] M := by
  unfold ff_M_get
  refine im_gd (fun hg => ?_)
  refine im_aload_n 0 0 rfl rfl ?_
  refine im_getR 1 1 rfl fd_M_7 (by decide +kernel) (fun x1 => ?_)
  refine im_sipush 2 4 rfl rfl ?_
  refine im_aload_n 3 7 rfl rfl ?_
  refine im_getI 4 8 rfl fd_M_58 (by decide +kernel) (fun x2 => ?_)
  refine im_imul 5 11 rfl ?_
  refine im_iload_n 6 12 rfl rfl ?_
  refine im_iadd 7 13 rfl ?_
  refine im_iaload 8 14 rfl (fun x3 => ?_)
  exact im_end rfl (wp_ireturn 9 15 rfl rfl)

theorem sp_M_get (G : gl_T) {t : Nat} {a1 : Int32} {M : mm_T} {y : Int32} (h : ff_M_get t a1 M = some y) : sp_S mi_M_get 1 20 G [.ref t, .int a1] M ((sh_i M) y).1 ((sh_i M) y).2 := sp_of mo_M_get mw_M_get (Or.inl (by decide +kernel)) rfl rfl (Or.inl rfl) (ip_M_get G t a1 M y h)

set_option maxRecDepth 100000 in
set_option maxHeartbeats 4000000 in
theorem ip_M_lay (G : gl_T) (t : Nat) (a1 : Int32) (a2 : Int32) (M : mm_T) : im_I mi_M_lay 1 20 G M sw_v (ff_M_lay t a1 a2 M) 0 [some (.ref t), some (.int a1), some (.int a2)] [] M := by
  unfold ff_M_lay
  refine im_gd (fun hg => ?_)
  refine im_aload_n 0 0 rfl rfl ?_
  refine im_getR 1 1 rfl fd_M_7 (by decide +kernel) (fun x1 => ?_)
  refine im_sipush 2 4 rfl rfl ?_
  refine im_aload_n 3 7 rfl rfl ?_
  refine im_getI 4 8 rfl fd_M_58 (by decide +kernel) (fun x2 => ?_)
  refine im_imul 5 11 rfl ?_
  refine im_iload_n 6 12 rfl rfl ?_
  refine im_iadd 7 13 rfl ?_
  refine im_iload_n 8 14 rfl rfl ?_
  refine im_iastore 9 15 rfl (fun M1 => ?_)
  exact im_end rfl (wp_return 10 16 rfl rfl)

theorem sp_M_lay (G : gl_T) {t : Nat} {a1 : Int32} {a2 : Int32} {M : mm_T} {y : mm_T} (h : ff_M_lay t a1 a2 M = some y) : sp_S mi_M_lay 1 20 G [.ref t, .int a1, .int a2] M (sw_v y).1 (sw_v y).2 := sp_of mo_M_lay mw_M_lay (Or.inl (by decide +kernel)) rfl rfl (Or.inl rfl) (ip_M_lay G t a1 a2 M y h)

set_option maxRecDepth 100000 in
set_option maxHeartbeats 4000000 in
theorem ip_M_layBlock (G : gl_T) (t : Nat) (a1 : Int32) (a2 : Int32) (a3 : Int32) (M : mm_T) : im_I mi_M_layBlock 2 42 G M sw_v (ff_M_layBlock t a1 a2 a3 M) 0 [some (.ref t), some (.int a1), some (.int a2), some (.int a3)] [] M := by
  unfold ff_M_layBlock
  refine im_gd (fun hg => ?_)
  refine im_aload_n 0 0 rfl rfl ?_
  refine im_iconst 1 1 rfl rfl ?_
  refine im_iconst 2 2 rfl rfl ?_
  refine im_iload_n 3 3 rfl rfl ?_
  refine im_imul 4 4 rfl ?_
  refine im_iadd 5 5 rfl ?_
  refine im_iload_n 6 6 rfl rfl ?_
  refine im_iadd 7 7 rfl ?_
  refine im_iload_n 8 8 rfl rfl ?_
  refine im_cWv (S := []) (fun _ hv => cpV (fr' := 1) (lo' := 20) (i := 9) (As := [.int (((2 : Int32) + ((5 : Int32) * a1)) + a2), .int a3]) (S := []) (a := t) (c := 11) rfl lk_M_65 mw_M_lay mv_M_lay rfl ⟨by decide, rfl⟩ rfl rfl rfl (gd_some hv).1 (sp_M_lay G hv)) (fun M1 => ?_)
  exact im_end rfl (wp_return 10 12 rfl rfl)

theorem sp_M_layBlock (G : gl_T) {t : Nat} {a1 : Int32} {a2 : Int32} {a3 : Int32} {M : mm_T} {y : mm_T} (h : ff_M_layBlock t a1 a2 a3 M = some y) : sp_S mi_M_layBlock 2 42 G [.ref t, .int a1, .int a2, .int a3] M (sw_v y).1 (sw_v y).2 := sp_of mo_M_layBlock mw_M_layBlock (Or.inl (by decide +kernel)) rfl rfl (Or.inl rfl) (ip_M_layBlock G t a1 a2 a3 M y h)

set_option maxRecDepth 100000 in
set_option maxHeartbeats 4000000 in
theorem ip_M_newBlock (G : gl_T) (t : Nat) (M : mm_T) : im_I mi_M_newBlock 3 65 G M sw_v (ff_M_newBlock t M) 0 [some (.ref t)] [] M := by
  unfold ff_M_newBlock
  refine im_gd (fun hg => ?_)
  refine im_aload_n 0 0 rfl rfl ?_
  refine im_aload_n 1 1 rfl rfl ?_
  refine im_iconst 2 2 rfl rfl ?_
  refine im_ci (S := [.ref t]) (fun _ hv => cpV (fr' := 1) (lo' := 20) (i := 3) (As := [.int (0 : Int32)]) (S := [.ref t]) (a := t) (c := 11) rfl lk_M_61 mw_M_get mv_M_get rfl ⟨by decide, rfl⟩ rfl rfl rfl (gd_some hv).1 (sp_M_get G hv)) (fun x1 => ?_)
  refine im_iconst 4 6 rfl rfl ?_
  refine im_iconst 5 7 rfl rfl ?_
  refine im_cWv (S := []) (fun _ hv => cpV (fr' := 2) (lo' := 42) (i := 6) (As := [.int x1, .int (0 : Int32), .int (0 : Int32)]) (S := []) (a := t) (c := 11) rfl lk_M_73 mw_M_layBlock mv_M_layBlock rfl ⟨by decide, rfl⟩ rfl rfl rfl (gd_some hv).1 (sp_M_layBlock G hv)) (fun M1 => ?_)
  refine im_aload_n 7 11 rfl rfl ?_
  refine im_iconst 8 12 rfl rfl ?_
  refine im_aload_n 9 13 rfl rfl ?_
  refine im_iconst 10 14 rfl rfl ?_
  refine im_ci (S := [.int (0 : Int32), .ref t]) (fun _ hv => cpV (fr' := 1) (lo' := 20) (i := 11) (As := [.int (0 : Int32)]) (S := [.int (0 : Int32), .ref t]) (a := t) (c := 11) rfl lk_M_61 mw_M_get mv_M_get rfl ⟨by decide, rfl⟩ rfl rfl rfl (gd_some hv).1 (sp_M_get G hv)) (fun x2 => ?_)
  refine im_iconst 12 18 rfl rfl ?_
  refine im_iadd 13 19 rfl ?_
  refine im_cWv (S := []) (fun _ hv => cpV (fr' := 1) (lo' := 20) (i := 14) (As := [.int (0 : Int32), .int (x2 + (1 : Int32))]) (S := []) (a := t) (c := 11) rfl lk_M_65 mw_M_lay mv_M_lay rfl ⟨by decide, rfl⟩ rfl rfl rfl (gd_some hv).1 (sp_M_lay G hv)) (fun M2 => ?_)
  exact im_end rfl (wp_return 15 23 rfl rfl)

theorem sp_M_newBlock (G : gl_T) {t : Nat} {M : mm_T} {y : mm_T} (h : ff_M_newBlock t M = some y) : sp_S mi_M_newBlock 3 65 G [.ref t] M (sw_v y).1 (sw_v y).2 := sp_of mo_M_newBlock mw_M_newBlock (Or.inl (by decide +kernel)) rfl rfl (Or.inl rfl) (ip_M_newBlock G t M y h)

set_option maxRecDepth 100000 in
set_option maxHeartbeats 4000000 in
theorem ip_M_layItem (G : gl_T) (t : Nat) (a1 : Int32) (a2 : Int32) (a3 : Int32) (M : mm_T) : im_I mi_M_layItem 2 42 G M sw_v (ff_M_layItem t a1 a2 a3 M) 0 [some (.ref t), some (.int a1), some (.int a2), some (.int a3)] [] M := by
  unfold ff_M_layItem
  refine im_gd (fun hg => ?_)
  refine im_aload_n 0 0 rfl rfl ?_
  refine im_bipush 1 1 rfl rfl ?_
  refine im_iconst 2 3 rfl rfl ?_
  refine im_iload_n 3 4 rfl rfl ?_
  refine im_imul 4 5 rfl ?_
  refine im_iadd 5 6 rfl ?_
  refine im_iload_n 6 7 rfl rfl ?_
  refine im_iadd 7 8 rfl ?_
  refine im_iload_n 8 9 rfl rfl ?_
  refine im_cWv (S := []) (fun _ hv => cpV (fr' := 1) (lo' := 20) (i := 9) (As := [.int (((62 : Int32) + ((5 : Int32) * a1)) + a2), .int a3]) (S := []) (a := t) (c := 11) rfl lk_M_65 mw_M_lay mv_M_lay rfl ⟨by decide, rfl⟩ rfl rfl rfl (gd_some hv).1 (sp_M_lay G hv)) (fun M1 => ?_)
  exact im_end rfl (wp_return 10 13 rfl rfl)

theorem sp_M_layItem (G : gl_T) {t : Nat} {a1 : Int32} {a2 : Int32} {a3 : Int32} {M : mm_T} {y : mm_T} (h : ff_M_layItem t a1 a2 a3 M = some y) : sp_S mi_M_layItem 2 42 G [.ref t, .int a1, .int a2, .int a3] M (sw_v y).1 (sw_v y).2 := sp_of mo_M_layItem mw_M_layItem (Or.inl (by decide +kernel)) rfl rfl (Or.inl rfl) (ip_M_layItem G t a1 a2 a3 M y h)

set_option maxRecDepth 100000 in
set_option maxHeartbeats 4000000 in
theorem ip_M_writes (G : gl_T) (t : Nat) (a1 : Int32) (a2 : Int32) (a3 : Int32) (a4 : Int32) (a5 : Int32) (a6 : Int32) (M : mm_T) : im_I mi_M_writes 3 65 G M sw_v (ff_M_writes t a1 a2 a3 a4 a5 a6 M) 0 [some (.ref t), some (.int a1), some (.int a2), some (.int a3), some (.int a4), some (.int a5), some (.int a6)] [] M := by
  unfold ff_M_writes
  refine im_gd (fun hg => ?_)
  refine im_aload_n 0 0 rfl rfl ?_
  refine im_iload_n 1 1 rfl rfl ?_
  refine im_iconst 2 2 rfl rfl ?_
  refine im_iload_n 3 3 rfl rfl ?_
  refine im_cWv (S := []) (fun _ hv => cpV (fr' := 2) (lo' := 42) (i := 4) (As := [.int a1, .int (0 : Int32), .int a2]) (S := []) (a := t) (c := 11) rfl lk_M_69 mw_M_layItem mv_M_layItem rfl ⟨by decide, rfl⟩ rfl rfl rfl (gd_some hv).1 (sp_M_layItem G hv)) (fun M1 => ?_)
  refine im_aload_n 5 7 rfl rfl ?_
  refine im_iload_n 6 8 rfl rfl ?_
  refine im_iconst 7 9 rfl rfl ?_
  refine im_iload_n 8 10 rfl rfl ?_
  refine im_cWv (S := []) (fun _ hv => cpV (fr' := 2) (lo' := 42) (i := 9) (As := [.int a1, .int (1 : Int32), .int a3]) (S := []) (a := t) (c := 11) rfl lk_M_69 mw_M_layItem mv_M_layItem rfl ⟨by decide, rfl⟩ rfl rfl rfl (gd_some hv).1 (sp_M_layItem G hv)) (fun M2 => ?_)
  refine im_aload_n 10 14 rfl rfl ?_
  refine im_iload_n 11 15 rfl rfl ?_
  refine im_iconst 12 16 rfl rfl ?_
  refine im_iload 13 17 rfl rfl ?_
  refine im_cWv (S := []) (fun _ hv => cpV (fr' := 2) (lo' := 42) (i := 14) (As := [.int a1, .int (2 : Int32), .int a4]) (S := []) (a := t) (c := 11) rfl lk_M_69 mw_M_layItem mv_M_layItem rfl ⟨by decide, rfl⟩ rfl rfl rfl (gd_some hv).1 (sp_M_layItem G hv)) (fun M3 => ?_)
  refine im_aload_n 15 22 rfl rfl ?_
  refine im_iload_n 16 23 rfl rfl ?_
  refine im_iconst 17 24 rfl rfl ?_
  refine im_iload 18 25 rfl rfl ?_
  refine im_cWv (S := []) (fun _ hv => cpV (fr' := 2) (lo' := 42) (i := 19) (As := [.int a1, .int (3 : Int32), .int a5]) (S := []) (a := t) (c := 11) rfl lk_M_69 mw_M_layItem mv_M_layItem rfl ⟨by decide, rfl⟩ rfl rfl rfl (gd_some hv).1 (sp_M_layItem G hv)) (fun M4 => ?_)
  refine im_aload_n 20 30 rfl rfl ?_
  refine im_iload_n 21 31 rfl rfl ?_
  refine im_iconst 22 32 rfl rfl ?_
  refine im_iload 23 33 rfl rfl ?_
  refine im_cWv (S := []) (fun _ hv => cpV (fr' := 2) (lo' := 42) (i := 24) (As := [.int a1, .int (4 : Int32), .int a6]) (S := []) (a := t) (c := 11) rfl lk_M_69 mw_M_layItem mv_M_layItem rfl ⟨by decide, rfl⟩ rfl rfl rfl (gd_some hv).1 (sp_M_layItem G hv)) (fun M5 => ?_)
  exact im_end rfl (wp_return 25 38 rfl rfl)

theorem sp_M_writes (G : gl_T) {t : Nat} {a1 : Int32} {a2 : Int32} {a3 : Int32} {a4 : Int32} {a5 : Int32} {a6 : Int32} {M : mm_T} {y : mm_T} (h : ff_M_writes t a1 a2 a3 a4 a5 a6 M = some y) : sp_S mi_M_writes 3 65 G [.ref t, .int a1, .int a2, .int a3, .int a4, .int a5, .int a6] M (sw_v y).1 (sw_v y).2 := sp_of mo_M_writes mw_M_writes (Or.inl (by decide +kernel)) rfl rfl (Or.inl rfl) (ip_M_writes G t a1 a2 a3 a4 a5 a6 M y h)

set_option maxRecDepth 100000 in
set_option maxHeartbeats 4000000 in
theorem ip_M_bl (G : gl_T) (t : Nat) (a1 : Int32) (a2 : Int32) (M : mm_T) : im_I mi_M_bl 2 41 G M (sh_i M) (ff_M_bl t a1 a2 M) 0 [some (.ref t), some (.int a1), some (.int a2)] [] M := by
  unfold ff_M_bl
  refine im_gd (fun hg => ?_)
  refine im_aload_n 0 0 rfl rfl ?_
  refine im_iconst 1 1 rfl rfl ?_
  refine im_iconst 2 2 rfl rfl ?_
  refine im_iload_n 3 3 rfl rfl ?_
  refine im_imul 4 4 rfl ?_
  refine im_iadd 5 5 rfl ?_
  refine im_iload_n 6 6 rfl rfl ?_
  refine im_iadd 7 7 rfl ?_
  refine im_ci (S := []) (fun _ hv => cpV (fr' := 1) (lo' := 20) (i := 8) (As := [.int (((2 : Int32) + ((5 : Int32) * a1)) + a2)]) (S := []) (a := t) (c := 11) rfl lk_M_61 mw_M_get mv_M_get rfl ⟨by decide, rfl⟩ rfl rfl rfl (gd_some hv).1 (sp_M_get G hv)) (fun x1 => ?_)
  exact im_end rfl (wp_ireturn 9 11 rfl rfl)

theorem sp_M_bl (G : gl_T) {t : Nat} {a1 : Int32} {a2 : Int32} {M : mm_T} {y : Int32} (h : ff_M_bl t a1 a2 M = some y) : sp_S mi_M_bl 2 41 G [.ref t, .int a1, .int a2] M ((sh_i M) y).1 ((sh_i M) y).2 := sp_of mo_M_bl mw_M_bl (Or.inl (by decide +kernel)) rfl rfl (Or.inl rfl) (ip_M_bl G t a1 a2 M y h)

set_option maxRecDepth 100000 in
set_option maxHeartbeats 4000000 in
theorem ip_M_newItem (G : gl_T) (t : Nat) (a1 : Int32) (a2 : Int32) (a3 : Int32) (a4 : Int32) (a5 : Int32) (M : mm_T) : im_I mi_M_newItem 4 91 G M sw_v (ff_M_newItem t a1 a2 a3 a4 a5 M) 0 [some (.ref t), some (.int a1), some (.int a2), some (.int a3), some (.int a4), some (.int a5), none] [] M := by
  unfold ff_M_newItem
  refine im_gd (fun hg => ?_)
  refine im_aload_n 0 0 rfl rfl ?_
  refine im_aload_n 1 1 rfl rfl ?_
  refine im_iconst 2 2 rfl rfl ?_
  refine im_ci (S := [.ref t]) (fun _ hv => cpV (fr' := 1) (lo' := 20) (i := 3) (As := [.int (1 : Int32)]) (S := [.ref t]) (a := t) (c := 11) rfl lk_M_61 mw_M_get mv_M_get rfl ⟨by decide, rfl⟩ rfl rfl rfl (gd_some hv).1 (sp_M_get G hv)) (fun x1 => ?_)
  refine im_iload_n 4 6 rfl rfl ?_
  refine im_iload_n 5 7 rfl rfl ?_
  refine im_iload_n 6 8 rfl rfl ?_
  refine im_iload 7 9 rfl rfl ?_
  refine im_iload 8 11 rfl rfl ?_
  refine im_cWv (S := []) (fun _ hv => cpV (fr' := 3) (lo' := 65) (i := 9) (As := [.int x1, .int a1, .int a2, .int a3, .int a4, .int a5]) (S := []) (a := t) (c := 11) rfl lk_M_76 mw_M_writes mv_M_writes rfl ⟨by decide, rfl⟩ rfl rfl rfl (gd_some hv).1 (sp_M_writes G hv)) (fun M1 => ?_)
  refine im_aload_n 10 16 rfl rfl ?_
  refine im_iconst 11 17 rfl rfl ?_
  refine im_aload_n 12 18 rfl rfl ?_
  refine im_iconst 13 19 rfl rfl ?_
  refine im_ci (S := [.int (1 : Int32), .ref t]) (fun _ hv => cpV (fr' := 1) (lo' := 20) (i := 14) (As := [.int (1 : Int32)]) (S := [.int (1 : Int32), .ref t]) (a := t) (c := 11) rfl lk_M_61 mw_M_get mv_M_get rfl ⟨by decide, rfl⟩ rfl rfl rfl (gd_some hv).1 (sp_M_get G hv)) (fun x2 => ?_)
  refine im_iconst 15 23 rfl rfl ?_
  refine im_iadd 16 24 rfl ?_
  refine im_cWv (S := []) (fun _ hv => cpV (fr' := 1) (lo' := 20) (i := 17) (As := [.int (1 : Int32), .int (x2 + (1 : Int32))]) (S := []) (a := t) (c := 11) rfl lk_M_65 mw_M_lay mv_M_lay rfl ⟨by decide, rfl⟩ rfl rfl rfl (gd_some hv).1 (sp_M_lay G hv)) (fun M2 => ?_)
  refine im_aload_n 18 28 rfl rfl ?_
  refine im_iconst 19 29 rfl rfl ?_
  refine im_ci (S := []) (fun _ hv => cpV (fr' := 1) (lo' := 20) (i := 20) (As := [.int (0 : Int32)]) (S := []) (a := t) (c := 11) rfl lk_M_61 mw_M_get mv_M_get rfl ⟨by decide, rfl⟩ rfl rfl rfl (gd_some hv).1 (sp_M_get G hv)) (fun x3 => ?_)
  refine im_iconst 21 33 rfl rfl ?_
  refine im_isub 22 34 rfl ?_
  refine im_letI (fun x4 => ?_)
  refine im_istore 23 35 [some (.ref t), some (.int a1), some (.int a2), some (.int a3), some (.int a4), some (.int a5), some (.int x4)] rfl rfl rfl ?_
  refine im_aload_n 24 37 rfl rfl ?_
  refine im_iload 25 38 rfl rfl ?_
  refine im_iconst 26 40 rfl rfl ?_
  refine im_aload_n 27 41 rfl rfl ?_
  refine im_iload 28 42 rfl rfl ?_
  refine im_iconst 29 44 rfl rfl ?_
  refine im_ci (S := [.int (0 : Int32), .int x4, .ref t]) (fun _ hv => cpV (fr' := 2) (lo' := 41) (i := 30) (As := [.int x4, .int (0 : Int32)]) (S := [.int (0 : Int32), .int x4, .ref t]) (a := t) (c := 11) rfl lk_M_80 mw_M_bl mv_M_bl rfl ⟨by decide, rfl⟩ rfl rfl rfl (gd_some hv).1 (sp_M_bl G hv)) (fun x5 => ?_)
  refine im_iconst 31 48 rfl rfl ?_
  refine im_iadd 32 49 rfl ?_
  refine im_cWv (S := []) (fun _ hv => cpV (fr' := 2) (lo' := 42) (i := 33) (As := [.int x4, .int (0 : Int32), .int (x5 + (1 : Int32))]) (S := []) (a := t) (c := 11) rfl lk_M_73 mw_M_layBlock mv_M_layBlock rfl ⟨by decide, rfl⟩ rfl rfl rfl (gd_some hv).1 (sp_M_layBlock G hv)) (fun M3 => ?_)
  exact im_end rfl (wp_return 34 53 rfl rfl)

theorem sp_M_newItem (G : gl_T) {t : Nat} {a1 : Int32} {a2 : Int32} {a3 : Int32} {a4 : Int32} {a5 : Int32} {M : mm_T} {y : mm_T} (h : ff_M_newItem t a1 a2 a3 a4 a5 M = some y) : sp_S mi_M_newItem 4 91 G [.ref t, .int a1, .int a2, .int a3, .int a4, .int a5] M (sw_v y).1 (sw_v y).2 := sp_of mo_M_newItem mw_M_newItem (Or.inl (by decide +kernel)) rfl rfl (Or.inl rfl) (ip_M_newItem G t a1 a2 a3 a4 a5 M y h)

set_option maxRecDepth 100000 in
set_option maxHeartbeats 4000000 in
theorem ip_M_exits (G : gl_T) (t : Nat) (a1 : Int32) (a2 : Int32) (a3 : Int32) (a4 : Int32) (a5 : Int32) (M : mm_T) : im_I mi_M_exits 3 65 G M sw_v (ff_M_exits t a1 a2 a3 a4 a5 M) 0 [some (.ref t), some (.int a1), some (.int a2), some (.int a3), some (.int a4), some (.int a5)] [] M := by
  unfold ff_M_exits
  refine im_gd (fun hg => ?_)
  refine im_aload_n 0 0 rfl rfl ?_
  refine im_iload_n 1 1 rfl rfl ?_
  refine im_iconst 2 2 rfl rfl ?_
  refine im_iload_n 3 3 rfl rfl ?_
  refine im_cWv (S := []) (fun _ hv => cpV (fr' := 2) (lo' := 42) (i := 4) (As := [.int a1, .int (1 : Int32), .int a2]) (S := []) (a := t) (c := 11) rfl lk_M_73 mw_M_layBlock mv_M_layBlock rfl ⟨by decide, rfl⟩ rfl rfl rfl (gd_some hv).1 (sp_M_layBlock G hv)) (fun M1 => ?_)
  refine im_aload_n 5 7 rfl rfl ?_
  refine im_iload_n 6 8 rfl rfl ?_
  refine im_iconst 7 9 rfl rfl ?_
  refine im_iload_n 8 10 rfl rfl ?_
  refine im_cWv (S := []) (fun _ hv => cpV (fr' := 2) (lo' := 42) (i := 9) (As := [.int a1, .int (2 : Int32), .int a3]) (S := []) (a := t) (c := 11) rfl lk_M_73 mw_M_layBlock mv_M_layBlock rfl ⟨by decide, rfl⟩ rfl rfl rfl (gd_some hv).1 (sp_M_layBlock G hv)) (fun M2 => ?_)
  refine im_aload_n 10 14 rfl rfl ?_
  refine im_iload_n 11 15 rfl rfl ?_
  refine im_iconst 12 16 rfl rfl ?_
  refine im_iload 13 17 rfl rfl ?_
  refine im_cWv (S := []) (fun _ hv => cpV (fr' := 2) (lo' := 42) (i := 14) (As := [.int a1, .int (3 : Int32), .int a4]) (S := []) (a := t) (c := 11) rfl lk_M_73 mw_M_layBlock mv_M_layBlock rfl ⟨by decide, rfl⟩ rfl rfl rfl (gd_some hv).1 (sp_M_layBlock G hv)) (fun M3 => ?_)
  refine im_aload_n 15 22 rfl rfl ?_
  refine im_iload_n 16 23 rfl rfl ?_
  refine im_iconst 17 24 rfl rfl ?_
  refine im_iload 18 25 rfl rfl ?_
  refine im_cWv (S := []) (fun _ hv => cpV (fr' := 2) (lo' := 42) (i := 19) (As := [.int a1, .int (4 : Int32), .int a5]) (S := []) (a := t) (c := 11) rfl lk_M_73 mw_M_layBlock mv_M_layBlock rfl ⟨by decide, rfl⟩ rfl rfl rfl (gd_some hv).1 (sp_M_layBlock G hv)) (fun M4 => ?_)
  exact im_end rfl (wp_return 20 30 rfl rfl)

theorem sp_M_exits (G : gl_T) {t : Nat} {a1 : Int32} {a2 : Int32} {a3 : Int32} {a4 : Int32} {a5 : Int32} {M : mm_T} {y : mm_T} (h : ff_M_exits t a1 a2 a3 a4 a5 M = some y) : sp_S mi_M_exits 3 65 G [.ref t, .int a1, .int a2, .int a3, .int a4, .int a5] M (sw_v y).1 (sw_v y).2 := sp_of mo_M_exits mw_M_exits (Or.inl (by decide +kernel)) rfl rfl (Or.inl rfl) (ip_M_exits G t a1 a2 a3 a4 a5 M y h)

