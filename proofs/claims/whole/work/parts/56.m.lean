set_option maxRecDepth 100000 in
set_option maxHeartbeats 4000000 in
theorem ip_D_blockOf (G : gl_T) (t : Nat) (a1 : Int32) (M : mm_T) : im_I mi_D_blockOf 7 111 G M sX_i (ff_D_blockOf t a1 M) 0 [some (.ref t), some (.int a1)] [] M := by
  unfold ff_D_blockOf
  refine im_gd (fun hg => ?_)
  refine im_aload_n 0 0 rfl rfl ?_
  refine im_iload_n 1 1 rfl rfl ?_
  refine im_rq (S := []) (fun hv => cpV (fr' := 6) (lo' := 90) (i := 2) (As := [.int a1]) (S := []) (a := t) (c := 10) rfl lk_D_144 mw_D_requireInstruction mv_D_requireInstruction rfl ⟨by decide, rfl⟩ rfl rfl rfl (gd_some hv).1 (sp_D_requireInstruction G hv)) (fun _ hv => xpV (fr' := 6) (lo' := 90) (i := 2) (As := [.int a1]) (S := []) (a := t) (c := 10) rfl lm_D_144 mw_D_requireInstruction mv_D_requireInstruction rfl ⟨by decide, rfl⟩ rfl rfl rfl (gd_some hv).1 (sp_D_requireInstruction G hv) (tw_out rfl)) (fun _ => rfl) ?_
  refine im_aload_n 3 5 rfl rfl ?_
  refine im_getR 4 6 rfl fd_D_87 (by decide +kernel) (fun x1 => ?_)
  refine im_iload_n 5 9 rfl rfl ?_
  refine im_ci (S := []) (fun _ hv => cpV (fr' := 2) (lo' := 41) (i := 6) (As := [.int a1]) (S := []) (a := x1) (c := 7) rfl lk_D_147 mw_P_blockAt mv_P_blockAt rfl ⟨by decide, rfl⟩ rfl rfl rfl (gd_some hv).1 (sp_P_blockAt G hv)) (fun x2 => ?_)
  exact im_end rfl (wp_ireturn 7 13 rfl rfl)

theorem sp_D_blockOf (G : gl_T) {t : Nat} {a1 : Int32} {M : mm_T} {y : (Int32 ⊕ String) × mm_T} (h : ff_D_blockOf t a1 M = some y) : sp_S mi_D_blockOf 7 111 G [.ref t, .int a1] M (sX_i y).1 (sX_i y).2 := sp_of mo_D_blockOf mw_D_blockOf (Or.inl (by decide +kernel)) rfl rfl (Or.inl rfl) (ip_D_blockOf G t a1 M y h)

set_option maxRecDepth 100000 in
set_option maxHeartbeats 4000000 in
theorem ip_O_kind (G : gl_T) (a1 : Int32) (M : mm_T) : im_I mi_O_kind 1 20 G M (sh_i M) (ff_O_kind a1 M) 0 [some (.int a1)] [] M := by
  unfold ff_O_kind
  refine im_iload_n 0 0 rfl rfl ?_
  refine im_iconst 1 1 rfl rfl ?_
  refine im_iand 2 2 rfl ?_
  exact im_end rfl (wp_ireturn 3 3 rfl rfl)

theorem sp_O_kind (G : gl_T) {a1 : Int32} {M : mm_T} {y : Int32} (h : ff_O_kind a1 M = some y) : sp_S mi_O_kind 1 20 G [.int a1] M ((sh_i M) y).1 ((sh_i M) y).2 := sp_of mo_O_kind mw_O_kind (Or.inl (by decide +kernel)) rfl rfl (Or.inl rfl) (ip_O_kind G a1 M y h)

set_option maxRecDepth 100000 in
set_option maxHeartbeats 4000000 in
theorem ip_P_kindAt (G : gl_T) (t : Nat) (a1 : Int32) (M : mm_T) : im_I mi_P_kindAt 2 41 G M (sh_i M) (ff_P_kindAt t a1 M) 0 [some (.ref t), some (.int a1)] [] M := by
  unfold ff_P_kindAt
  refine im_gd (fun hg => ?_)
  refine im_iload_n 0 0 rfl rfl ?_
  refine im_bipush 1 1 rfl rfl ?_
  refine im_ic_ge 2 3 20 rfl (by decide) ?_ ?_
  · refine im_iconst 9 20 rfl rfl ?_
    exact im_end rfl (wp_ireturn 10 21 rfl rfl)
  · refine im_aload_n 3 6 rfl rfl ?_
    refine im_getR 4 7 rfl fd_P_9 (by decide +kernel) (fun x1 => ?_)
    refine im_iload_n 5 10 rfl rfl ?_
    refine im_ci (S := []) (fun _ hv => cpS (fr' := 1) (lo' := 20) (i := 6) (As := [.ref x1, .int a1]) (S := []) rfl lk_P_41 mw_D_at_a mv_D_at_a rfl rfl rfl rfl (sp_D_at_a G hv)) (fun x2 => ?_)
    refine im_ci (S := []) (fun _ hv => cpS (fr' := 1) (lo' := 20) (i := 7) (As := [.int x2]) (S := []) rfl lk_P_60 mw_O_kind mv_O_kind rfl rfl rfl rfl (sp_O_kind G hv)) (fun x3 => ?_)
    refine im_goto 8 17 21 rfl (by decide) ?_
    exact im_end rfl (wp_ireturn 10 21 rfl rfl)

theorem sp_P_kindAt (G : gl_T) {t : Nat} {a1 : Int32} {M : mm_T} {y : Int32} (h : ff_P_kindAt t a1 M = some y) : sp_S mi_P_kindAt 2 41 G [.ref t, .int a1] M ((sh_i M) y).1 ((sh_i M) y).2 := sp_of mo_P_kindAt mw_P_kindAt (Or.inl (by decide +kernel)) rfl rfl (Or.inl rfl) (ip_P_kindAt G t a1 M y h)

set_option maxRecDepth 100000 in
set_option maxHeartbeats 4000000 in
theorem ip_D_kindOf (G : gl_T) (t : Nat) (a1 : Int32) (M : mm_T) : im_I mi_D_kindOf 7 111 G M sX_i (ff_D_kindOf t a1 M) 0 [some (.ref t), some (.int a1)] [] M := by
  unfold ff_D_kindOf
  refine im_gd (fun hg => ?_)
  refine im_aload_n 0 0 rfl rfl ?_
  refine im_iload_n 1 1 rfl rfl ?_
  refine im_rq (S := []) (fun hv => cpV (fr' := 6) (lo' := 90) (i := 2) (As := [.int a1]) (S := []) (a := t) (c := 10) rfl lk_D_144 mw_D_requireInstruction mv_D_requireInstruction rfl ⟨by decide, rfl⟩ rfl rfl rfl (gd_some hv).1 (sp_D_requireInstruction G hv)) (fun _ hv => xpV (fr' := 6) (lo' := 90) (i := 2) (As := [.int a1]) (S := []) (a := t) (c := 10) rfl lm_D_144 mw_D_requireInstruction mv_D_requireInstruction rfl ⟨by decide, rfl⟩ rfl rfl rfl (gd_some hv).1 (sp_D_requireInstruction G hv) (tw_out rfl)) (fun _ => rfl) ?_
  refine im_aload_n 3 5 rfl rfl ?_
  refine im_getR 4 6 rfl fd_D_87 (by decide +kernel) (fun x1 => ?_)
  refine im_iload_n 5 9 rfl rfl ?_
  refine im_ci (S := []) (fun _ hv => cpV (fr' := 2) (lo' := 41) (i := 6) (As := [.int a1]) (S := []) (a := x1) (c := 7) rfl lk_D_150 mw_P_kindAt mv_P_kindAt rfl ⟨by decide, rfl⟩ rfl rfl rfl (gd_some hv).1 (sp_P_kindAt G hv)) (fun x2 => ?_)
  exact im_end rfl (wp_ireturn 7 13 rfl rfl)

theorem sp_D_kindOf (G : gl_T) {t : Nat} {a1 : Int32} {M : mm_T} {y : (Int32 ⊕ String) × mm_T} (h : ff_D_kindOf t a1 M = some y) : sp_S mi_D_kindOf 7 111 G [.ref t, .int a1] M (sX_i y).1 (sX_i y).2 := sp_of mo_D_kindOf mw_D_kindOf (Or.inl (by decide +kernel)) rfl rfl (Or.inl rfl) (ip_D_kindOf G t a1 M y h)

set_option maxRecDepth 100000 in
set_option maxHeartbeats 4000000 in
theorem li_D_fill_a_2 (G : gl_T) (M0 : mm_T) (p0 : Nat) (p1 : Int32) : ∀ (fu : Nat) (q2 : Int32) (N : mm_T), im_I mi_D_fill_a 1 20 G M0 sw_v (lf_D_fill_a_2 p0 p1 fu q2 N) 2 [some (.ref p0), some (.int p1), some (.int q2)] [] N := by
  intro fu
  induction fu with
  | zero => intro _ _; exact im_none
  | succ fu ih =>
    intro q2 N
    show im_I mi_D_fill_a 1 20 G M0 sw_v (lb_D_fill_a_2 p0 p1 (lf_D_fill_a_2 p0 p1 fu) q2 N) 2 [some (.ref p0), some (.int p1), some (.int q2)] [] N
    unfold lb_D_fill_a_2
    refine im_iload_n 2 2 rfl rfl ?_
    refine im_aload_n 3 3 rfl rfl ?_
    refine im_arraylength 4 4 rfl (fun x1 => ?_)
    refine im_ic_ge 5 5 18 rfl (by decide) ?_ ?_
    · exact im_end rfl (wp_return 12 18 rfl rfl)
    · refine im_aload_n 6 8 rfl rfl ?_
      refine im_iload_n 7 9 rfl rfl ?_
      refine im_iload_n 8 10 rfl rfl ?_
      refine im_iastore 9 11 rfl (fun M1 => ?_)
      refine im_iincL 10 12 (fun x2 => [some (.ref p0), some (.int p1), some (.int x2)]) rfl rfl rfl rfl (fun _ => rfl) (fun x2 => ?_)
      refine im_goto 11 15 2 rfl (by decide) ?_
      exact im_less _ (by simp [lv_le]) (ih x2 M1)

set_option maxRecDepth 100000 in
set_option maxHeartbeats 4000000 in
theorem ip_D_fill_a (G : gl_T) (a1 : Nat) (a2 : Int32) (M : mm_T) : im_I mi_D_fill_a 1 20 G M sw_v (ff_D_fill_a a1 a2 M) 0 [some (.ref a1), some (.int a2), none] [] M := by
  unfold ff_D_fill_a
  refine im_iconst 0 0 rfl rfl ?_
  refine im_istore_n 1 1 [some (.ref a1), some (.int a2), some (.int (0 : Int32))] rfl rfl rfl ?_
  refine im_less [some (.ref a1), some (.int a2), some (.int (0 : Int32))] (by simp [lv_le]) ?_
  exact li_D_fill_a_2 G M a1 a2 fu_L (0 : Int32) M

theorem sp_D_fill_a (G : gl_T) {a1 : Nat} {a2 : Int32} {M : mm_T} {y : mm_T} (h : ff_D_fill_a a1 a2 M = some y) : sp_S mi_D_fill_a 1 20 G [.ref a1, .int a2] M (sw_v y).1 (sw_v y).2 := sp_of mo_D_fill_a mw_D_fill_a (Or.inl (by decide +kernel)) rfl rfl (Or.inl rfl) (ip_D_fill_a G a1 a2 M y h)

set_option maxRecDepth 100000 in
set_option maxHeartbeats 4000000 in
theorem li_G_readEdges_28 (G : gl_T) (M0 : mm_T) (k0 : mm_T → Option (mm_T)) (p0 : Nat) (p1 : Nat) (p2 : Int32) (hk0 : ∀ (N : mm_T), im_I mi_G_readEdges 3 63 G M0 sw_v (k0 N) 94 [some (.ref p0), some (.ref p1), some (.int p2), none, none] [] N) : ∀ (fu : Nat) (q3 : Int32) (N : mm_T), im_I mi_G_readEdges 3 63 G M0 sw_v (lf_G_readEdges_28 k0 p0 p1 p2 fu q3 N) 28 [some (.ref p0), some (.ref p1), some (.int p2), some (.int q3), none] [] N := by
  intro fu
  induction fu with
  | zero => intro _ _; exact im_none
  | succ fu ih =>
    intro q3 N
    show im_I mi_G_readEdges 3 63 G M0 sw_v (lb_G_readEdges_28 k0 p0 p1 p2 (lf_G_readEdges_28 k0 p0 p1 p2 fu) q3 N) 28 [some (.ref p0), some (.ref p1), some (.int p2), some (.int q3), none] [] N
    unfold lb_G_readEdges_28
    refine im_iload_n 16 28 rfl rfl ?_
    refine im_aload_n 17 29 rfl rfl ?_
    refine im_iload_n 18 30 rfl rfl ?_
    refine im_ci (S := [.int q3]) (fun _ hv => cpV (fr' := 2) (lo' := 41) (i := 19) (As := [.int p2]) (S := [.int q3]) (a := p1) (c := 7) rfl lk_G_78 mw_P_wayCount mv_P_wayCount rfl ⟨by decide, rfl⟩ rfl rfl rfl (gd_some hv).1 (sp_P_wayCount G hv)) (fun x4 => ?_)
    refine im_ic_ge 20 34 94 rfl (by decide) ?_ ?_
    · exact im_less _ (by simp [lv_le]) (hk0 N)
    · refine im_aload_n 21 37 rfl rfl ?_
      refine im_iload_n 22 38 rfl rfl ?_
      refine im_iload_n 23 39 rfl rfl ?_
      refine im_ci (S := []) (fun _ hv => cpV (fr' := 2) (lo' := 41) (i := 24) (As := [.int p2, .int q3]) (S := []) (a := p1) (c := 7) rfl lk_G_81 mw_P_wayOf mv_P_wayOf rfl ⟨by decide, rfl⟩ rfl rfl rfl (gd_some hv).1 (sp_P_wayOf G hv)) (fun x5 => ?_)
      refine im_istore 25 43 [some (.ref p0), some (.ref p1), some (.int p2), some (.int q3), some (.int x5)] rfl rfl rfl ?_
      refine im_aload_n 26 45 rfl rfl ?_
      refine im_getR 27 46 rfl fd_G_9 (by decide +kernel) (fun x6 => ?_)
      refine im_iload_n 28 49 rfl rfl ?_
      refine im_aload_n 29 50 rfl rfl ?_
      refine im_getR 30 51 rfl fd_G_9 (by decide +kernel) (fun x7 => ?_)
      refine im_iload_n 31 54 rfl rfl ?_
      refine im_ci (S := [.int p2, .ref x6]) (fun _ hv => cpS (fr' := 1) (lo' := 20) (i := 32) (As := [.ref x7, .int p2]) (S := [.int p2, .ref x6]) rfl lk_G_62 mw_D_at_a mv_D_at_a rfl rfl rfl rfl (sp_D_at_a G hv)) (fun x8 => ?_)
      refine im_iconst 33 58 rfl rfl ?_
      refine im_iload 34 59 rfl rfl ?_
      refine im_ishl 35 61 rfl ?_
      refine im_ior 36 62 rfl ?_
      refine im_cWv (S := []) (fun _ hv => cpS (fr' := 1) (lo' := 20) (i := 37) (As := [.ref x6, .int p2, .int (x8 ||| (io_shl (1 : Int32) x5))]) (S := []) rfl lk_G_41 mw_D_put_a mv_D_put_a rfl rfl rfl rfl (sp_D_put_a G hv)) (fun M3 => ?_)
      refine im_aload_n 38 66 rfl rfl ?_
      refine im_getR 39 67 rfl fd_G_15 (by decide +kernel) (fun x9 => ?_)
      refine im_iload 40 70 rfl rfl ?_
      refine im_aload_n 41 72 rfl rfl ?_
      refine im_getR 42 73 rfl fd_G_15 (by decide +kernel) (fun x10 => ?_)
      refine im_iload 43 76 rfl rfl ?_
      refine im_ci (S := [.int x5, .ref x9]) (fun _ hv => cpS (fr' := 1) (lo' := 20) (i := 44) (As := [.ref x10, .int x5]) (S := [.int x5, .ref x9]) rfl lk_G_62 mw_D_at_a mv_D_at_a rfl rfl rfl rfl (sp_D_at_a G hv)) (fun x11 => ?_)
      refine im_iconst 45 81 rfl rfl ?_
      refine im_iload_n 46 82 rfl rfl ?_
      refine im_ishl 47 83 rfl ?_
      refine im_ior 48 84 rfl ?_
      refine im_cWv (S := []) (fun _ hv => cpS (fr' := 1) (lo' := 20) (i := 49) (As := [.ref x9, .int x5, .int (x11 ||| (io_shl (1 : Int32) p2))]) (S := []) rfl lk_G_41 mw_D_put_a mv_D_put_a rfl rfl rfl rfl (sp_D_put_a G hv)) (fun M4 => ?_)
      refine im_iincL 50 88 (fun x12 => [some (.ref p0), some (.ref p1), some (.int p2), some (.int x12), some (.int x5)]) rfl rfl rfl rfl (fun _ => rfl) (fun x12 => ?_)
      refine im_goto 51 91 28 rfl (by decide) ?_
      exact im_less _ (by simp [lv_le]) (ih x12 M4)

set_option maxRecDepth 100000 in
set_option maxHeartbeats 4000000 in
theorem li_G_readEdges_18 (G : gl_T) (M0 : mm_T) (p0 : Nat) (p1 : Nat) : ∀ (fu : Nat) (q2 : Int32) (N : mm_T), im_I mi_G_readEdges 3 63 G M0 sw_v (lf_G_readEdges_18 p0 p1 fu q2 N) 18 [some (.ref p0), some (.ref p1), some (.int q2), none, none] [] N := by
  intro fu
  induction fu with
  | zero => intro _ _; exact im_none
  | succ fu ih =>
    intro q2 N
    show im_I mi_G_readEdges 3 63 G M0 sw_v (lb_G_readEdges_18 p0 p1 (lf_G_readEdges_18 p0 p1 fu) q2 N) 18 [some (.ref p0), some (.ref p1), some (.int q2), none, none] [] N
    unfold lb_G_readEdges_18
    refine im_iload_n 10 18 rfl rfl ?_
    refine im_aload_n 11 19 rfl rfl ?_
    refine im_getI 12 20 rfl fd_G_73 (by decide +kernel) (fun x3 => ?_)
    refine im_ic_ge 13 23 100 rfl (by decide) ?_ ?_
    · exact im_end rfl (wp_return 54 100 rfl rfl)
    · refine im_iconst 14 26 rfl rfl ?_
      refine im_istore_n 15 27 [some (.ref p0), some (.ref p1), some (.int q2), some (.int (0 : Int32)), none] rfl rfl rfl ?_
      refine im_less [some (.ref p0), some (.ref p1), some (.int q2), some (.int (0 : Int32)), none] (by simp [lv_le]) ?_
      refine li_G_readEdges_28 G M0 _ p0 p1 q2 ?_ fu_L (0 : Int32) N
      · intro M5
        show im_I mi_G_readEdges 3 63 G M0 sw_v (_) 94 [some (.ref p0), some (.ref p1), some (.int q2), none, none] [] M5
        refine im_iincL 52 94 (fun x13 => [some (.ref p0), some (.ref p1), some (.int x13), none, none]) rfl rfl rfl rfl (fun _ => rfl) (fun x13 => ?_)
        refine im_goto 53 97 18 rfl (by decide) ?_
        exact im_less _ (by simp [lv_le]) (ih x13 M5)

set_option maxRecDepth 100000 in
set_option maxHeartbeats 4000000 in
theorem ip_G_readEdges (G : gl_T) (t : Nat) (a1 : Nat) (M : mm_T) : im_I mi_G_readEdges 3 63 G M sw_v (ff_G_readEdges t a1 M) 0 [some (.ref t), some (.ref a1), none, none, none] [] M := by
  unfold ff_G_readEdges
  refine im_gd (fun hg => ?_)
  refine im_aload_n 0 0 rfl rfl ?_
  refine im_getR 1 1 rfl fd_G_9 (by decide +kernel) (fun x1 => ?_)
  refine im_iconst 2 4 rfl rfl ?_
  refine im_cWv (S := []) (fun _ hv => cpS (fr' := 1) (lo' := 20) (i := 3) (As := [.ref x1, .int (0 : Int32)]) (S := []) rfl lk_G_69 mw_D_fill_a mv_D_fill_a rfl rfl rfl rfl (sp_D_fill_a G hv)) (fun M1 => ?_)
  refine im_aload_n 4 8 rfl rfl ?_
  refine im_getR 5 9 rfl fd_G_15 (by decide +kernel) (fun x2 => ?_)
  refine im_iconst 6 12 rfl rfl ?_
  refine im_cWv (S := []) (fun _ hv => cpS (fr' := 1) (lo' := 20) (i := 7) (As := [.ref x2, .int (0 : Int32)]) (S := []) rfl lk_G_69 mw_D_fill_a mv_D_fill_a rfl rfl rfl rfl (sp_D_fill_a G hv)) (fun M2 => ?_)
  refine im_iconst 8 16 rfl rfl ?_
  refine im_istore_n 9 17 [some (.ref t), some (.ref a1), some (.int (0 : Int32)), none, none] rfl rfl rfl ?_
  refine im_less [some (.ref t), some (.ref a1), some (.int (0 : Int32)), none, none] (by simp [lv_le]) ?_
  exact li_G_readEdges_18 G M t a1 fu_L (0 : Int32) M2

theorem sp_G_readEdges (G : gl_T) {t : Nat} {a1 : Nat} {M : mm_T} {y : mm_T} (h : ff_G_readEdges t a1 M = some y) : sp_S mi_G_readEdges 3 63 G [.ref t, .ref a1] M (sw_v y).1 (sw_v y).2 := sp_of mo_G_readEdges mw_G_readEdges (Or.inl (by decide +kernel)) rfl rfl (Or.inl rfl) (ip_G_readEdges G t a1 M y h)

set_option maxRecDepth 100000 in
set_option maxHeartbeats 4000000 in
theorem ip_D_hasBit (G : gl_T) (a1 : Int64) (a2 : Int32) (M : mm_T) : im_I mi_D_hasBit 1 20 G M (sh_i M) (ff_D_hasBit a1 a2 M) 0 [some (.long a1), none, some (.int a2)] [] M := by
  unfold ff_D_hasBit
  refine im_lload_n 0 0 rfl rfl ?_
  refine im_iload_n 1 1 rfl rfl ?_
  refine im_lushr 2 2 rfl ?_
  refine im_lconst 3 3 rfl rfl ?_
  refine im_land 4 4 rfl ?_
  refine im_lconst 5 5 rfl rfl ?_
  refine im_lcmp 6 6 rfl ?_
  refine im_if_eq 7 7 14 rfl (by decide) ?_ ?_
  · refine im_iconst 10 14 rfl rfl ?_
    exact im_end rfl (wp_zreturn 11 15 (ty := .boolean) rfl (by first | exact nz_0 | exact nz_1) rfl)
  · refine im_iconst 8 10 rfl rfl ?_
    refine im_goto 9 11 15 rfl (by decide) ?_
    exact im_end rfl (wp_zreturn 11 15 (ty := .boolean) rfl (by first | exact nz_0 | exact nz_1) rfl)

theorem sp_D_hasBit (G : gl_T) {a1 : Int64} {a2 : Int32} {M : mm_T} {y : Int32} (h : ff_D_hasBit a1 a2 M = some y) : sp_S mi_D_hasBit 1 20 G [.long a1, .int a2] M ((sh_i M) y).1 ((sh_i M) y).2 := sp_of mo_D_hasBit mw_D_hasBit (Or.inl (by decide +kernel)) rfl rfl (Or.inl rfl) (ip_D_hasBit G a1 a2 M y h)

set_option maxRecDepth 100000 in
set_option maxHeartbeats 4000000 in
theorem li_G_union_4 (G : gl_T) (p0 : Nat) (p1 : Int32) (M : mm_T) : ∀ (fu : Nat) (q2 : Int32) (q3 : Int32), im_I mi_G_union 2 42 G M (sh_i M) (lf_G_union_4 p0 p1 M fu q2 q3) 4 [some (.ref p0), some (.int p1), some (.int q2), some (.int q3)] [] M := by
  intro fu
  induction fu with
  | zero => intro _ _; exact im_none
  | succ fu ih =>
    intro q2 q3
    show im_I mi_G_union 2 42 G M (sh_i M) (lb_G_union_4 p0 p1 M (lf_G_union_4 p0 p1 M fu) q2 q3) 4 [some (.ref p0), some (.int p1), some (.int q2), some (.int q3)] [] M
    unfold lb_G_union_4
    refine im_iload_n 4 4 rfl rfl ?_
    refine im_bipush 5 5 rfl rfl ?_
    refine im_ic_ge 6 7 37 rfl (by decide) ?_ ?_
    · refine im_iload_n 22 37 rfl rfl ?_
      exact im_end rfl (wp_ireturn 23 38 rfl rfl)
    · refine im_iload_n 7 10 rfl rfl ?_
      refine im_iload_n 8 11 rfl rfl ?_
      refine im_i2l 9 12 rfl ?_
      refine im_iload_n 10 13 rfl rfl ?_
      refine im_ci (S := [.int q2]) (fun _ hv => cpS (fr' := 1) (lo' := 20) (i := 11) (As := [.long ((p1).toInt64), .int q3]) (S := [.int q2]) rfl lk_G_53 mw_D_hasBit mv_D_hasBit rfl rfl rfl rfl (sp_D_hasBit G hv)) (fun x1 => ?_)
      refine im_jp (fun j29 => ∀ (x2 : Int32), im_I mi_G_union 2 42 G M (sh_i M) (j29 x2) 29 [some (.ref p0), some (.int p1), none, some (.int q3)] [.int x2, .int q2] M) ?_ (fun j29 hj29 => ?_)
      · intro x2
        show im_I mi_G_union 2 42 G M (sh_i M) (_) 29 [some (.ref p0), some (.int p1), none, some (.int q3)] [.int x2, .int q2] M
        refine im_ior 18 29 rfl ?_
        refine im_letI (fun x3 => ?_)
        refine im_istore_n 19 30 [some (.ref p0), some (.int p1), some (.int x3), some (.int q3)] rfl rfl rfl ?_
        refine im_iincL 20 31 (fun x4 => [some (.ref p0), some (.int p1), some (.int x3), some (.int x4)]) rfl rfl rfl rfl (fun _ => rfl) (fun x4 => ?_)
        refine im_goto 21 34 4 rfl (by decide) ?_
        exact im_less _ (by simp [lv_le]) (ih x3 x4)
      refine im_if_eq 12 17 28 rfl (by decide) ?_ ?_
      · refine im_iconst 17 28 rfl rfl ?_
        exact im_less _ (by simp [lv_le]) (hj29 (0 : Int32))
      · refine im_aload_n 13 20 rfl rfl ?_
        refine im_iload_n 14 21 rfl rfl ?_
        refine im_ci (S := [.int q2]) (fun _ hv => cpS (fr' := 1) (lo' := 20) (i := 15) (As := [.ref p0, .int q3]) (S := [.int q2]) rfl lk_G_62 mw_D_at_a mv_D_at_a rfl rfl rfl rfl (sp_D_at_a G hv)) (fun x5 => ?_)
        refine im_goto 16 25 29 rfl (by decide) ?_
        exact im_less _ (by simp [lv_le]) (hj29 x5)

set_option maxRecDepth 100000 in
set_option maxHeartbeats 4000000 in
theorem ip_G_union (G : gl_T) (a1 : Nat) (a2 : Int32) (M : mm_T) : im_I mi_G_union 2 42 G M (sh_i M) (ff_G_union a1 a2 M) 0 [some (.ref a1), some (.int a2), none, none] [] M := by
  unfold ff_G_union
  refine im_iconst 0 0 rfl rfl ?_
  refine im_istore_n 1 1 [some (.ref a1), some (.int a2), some (.int (0 : Int32)), none] rfl rfl rfl ?_
  refine im_iconst 2 2 rfl rfl ?_
  refine im_istore_n 3 3 [some (.ref a1), some (.int a2), some (.int (0 : Int32)), some (.int (0 : Int32))] rfl rfl rfl ?_
  refine im_less [some (.ref a1), some (.int a2), some (.int (0 : Int32)), some (.int (0 : Int32))] (by simp [lv_le]) ?_
  exact li_G_union_4 G a1 a2 M fu_L (0 : Int32) (0 : Int32)

theorem sp_G_union (G : gl_T) {a1 : Nat} {a2 : Int32} {M : mm_T} {y : Int32} (h : ff_G_union a1 a2 M = some y) : sp_S mi_G_union 2 42 G [.ref a1, .int a2] M ((sh_i M) y).1 ((sh_i M) y).2 := sp_of mo_G_union mw_G_union (Or.inl (by decide +kernel)) rfl rfl (Or.inl rfl) (ip_G_union G a1 a2 M y h)

set_option maxRecDepth 100000 in
set_option maxHeartbeats 4000000 in
theorem li_G_measureDistances_60 (G : gl_T) (M0 : mm_T) (k0 : mm_T → Option (mm_T)) (p0 : Nat) (p1 : Int32) (p2 : Int32) (hk0 : ∀ (N : mm_T), im_I mi_G_measureDistances 3 65 G M0 sw_v (k0 N) 90 [some (.ref p0), some (.int p1), some (.int p2), none] [] N) : ∀ (fu : Nat) (q3 : Int32) (N : mm_T), im_I mi_G_measureDistances 3 65 G M0 sw_v (lf_G_measureDistances_60 k0 p0 p1 p2 fu q3 N) 60 [some (.ref p0), some (.int p1), some (.int p2), some (.int q3)] [] N := by
  intro fu
  induction fu with
  | zero => intro _ _; exact im_none
  | succ fu ih =>
    intro q3 N
    show im_I mi_G_measureDistances 3 65 G M0 sw_v (lb_G_measureDistances_60 k0 p0 p1 p2 (lf_G_measureDistances_60 k0 p0 p1 p2 fu) q3 N) 60 [some (.ref p0), some (.int p1), some (.int p2), some (.int q3)] [] N
    unfold lb_G_measureDistances_60
    refine im_iload_n 37 60 rfl rfl ?_
    refine im_bipush 38 61 rfl rfl ?_
    refine im_ic_ge 39 63 90 rfl (by decide) ?_ ?_
    · exact im_less _ (by simp [lv_le]) (hk0 N)
    · refine im_iload_n 40 66 rfl rfl ?_
      refine im_i2l 41 67 rfl ?_
      refine im_iload_n 42 68 rfl rfl ?_
      refine im_ci (S := []) (fun _ hv => cpS (fr' := 1) (lo' := 20) (i := 43) (As := [.long ((p1).toInt64), .int q3]) (S := []) rfl lk_G_53 mw_D_hasBit mv_D_hasBit rfl rfl rfl rfl (sp_D_hasBit G hv)) (fun x8 => ?_)
      refine im_jp (fun j84 => ∀  (M5 : mm_T), im_I mi_G_measureDistances 3 65 G M0 sw_v (j84 M5) 84 [some (.ref p0), some (.int p1), some (.int p2), some (.int q3)] [] M5) ?_ (fun j84 hj84 => ?_)
      · intro M5
        show im_I mi_G_measureDistances 3 65 G M0 sw_v (_) 84 [some (.ref p0), some (.int p1), some (.int p2), some (.int q3)] [] M5
        refine im_iincL 50 84 (fun x9 => [some (.ref p0), some (.int p1), some (.int p2), some (.int x9)]) rfl rfl rfl rfl (fun _ => rfl) (fun x9 => ?_)
        refine im_goto 51 87 60 rfl (by decide) ?_
        exact im_less _ (by simp [lv_le]) (ih x9 M5)
      refine im_if_eq 44 72 84 rfl (by decide) ?_ ?_
      · exact im_less _ (by simp [lv_le]) (hj84 N)
      · refine im_aload_n 45 75 rfl rfl ?_
        refine im_getR 46 76 rfl fd_G_18 (by decide +kernel) (fun x10 => ?_)
        refine im_iload_n 47 79 rfl rfl ?_
        refine im_iload_n 48 80 rfl rfl ?_
        refine im_cWv (S := []) (fun _ hv => cpS (fr' := 1) (lo' := 20) (i := 49) (As := [.ref x10, .int q3, .int p2]) (S := []) rfl lk_G_41 mw_D_put_a mv_D_put_a rfl rfl rfl rfl (sp_D_put_a G hv)) (fun M6 => ?_)
        exact im_less _ (by simp [lv_le]) (hj84 M6)

set_option maxRecDepth 100000 in
set_option maxHeartbeats 4000000 in
theorem li_G_measureDistances_26 (G : gl_T) (M0 : mm_T) (p0 : Nat) : ∀ (fu : Nat) (q1 : Int32) (q2 : Int32) (N : mm_T), im_I mi_G_measureDistances 3 65 G M0 sw_v (lf_G_measureDistances_26 p0 fu q1 q2 N) 26 [some (.ref p0), some (.int q1), some (.int q2), none] [] N := by
  intro fu
  induction fu with
  | zero => intro _ _ _; exact im_none
  | succ fu ih =>
    intro q1 q2 N
    show im_I mi_G_measureDistances 3 65 G M0 sw_v (lb_G_measureDistances_26 p0 (lf_G_measureDistances_26 p0 fu) q1 q2 N) 26 [some (.ref p0), some (.int q1), some (.int q2), none] [] N
    unfold lb_G_measureDistances_26
    refine im_iload_n 16 26 rfl rfl ?_
    refine im_bipush 17 27 rfl rfl ?_
    refine im_ic_ge 18 29 96 rfl (by decide) ?_ ?_
    · exact im_end rfl (wp_return 54 96 rfl rfl)
    · refine im_aload_n 19 32 rfl rfl ?_
      refine im_getR 20 33 rfl fd_G_9 (by decide +kernel) (fun x3 => ?_)
      refine im_iload_n 21 36 rfl rfl ?_
      refine im_ci (S := []) (fun _ hv => cpS (fr' := 2) (lo' := 42) (i := 22) (As := [.ref x3, .int q1]) (S := []) rfl lk_G_85 mw_G_union mv_G_union rfl rfl rfl rfl (sp_G_union G hv)) (fun x4 => ?_)
      refine im_aload_n 23 40 rfl rfl ?_
      refine im_getI 24 41 rfl fd_G_49 (by decide +kernel) (fun x5 => ?_)
      refine im_iconst 25 44 rfl rfl ?_
      refine im_ixor 26 45 rfl ?_
      refine im_iand 27 46 rfl ?_
      refine im_letI (fun x6 => ?_)
      refine im_istore_n 28 47 [some (.ref p0), some (.int x6), some (.int q2), none] rfl rfl rfl ?_
      refine im_aload_n 29 48 rfl rfl ?_
      refine im_dup 30 49 rfl rfl ?_
      refine im_getI 31 50 rfl fd_G_49 (by decide +kernel) (fun x7 => ?_)
      refine im_iload_n 32 53 rfl rfl ?_
      refine im_ior 33 54 rfl ?_
      refine im_putI 34 55 rfl fd_G_49 (Or.inl (by decide +kernel)) (by decide +kernel) (fun M4 => ?_)
      refine im_iconst 35 58 rfl rfl ?_
      refine im_istore_n 36 59 [some (.ref p0), some (.int x6), some (.int q2), some (.int (0 : Int32))] rfl rfl rfl ?_
      refine im_less [some (.ref p0), some (.int x6), some (.int q2), some (.int (0 : Int32))] (by simp [lv_le]) ?_
      refine li_G_measureDistances_60 G M0 _ p0 x6 q2 ?_ fu_L (0 : Int32) M4
      · intro M7
        show im_I mi_G_measureDistances 3 65 G M0 sw_v (_) 90 [some (.ref p0), some (.int x6), some (.int q2), none] [] M7
        refine im_iincL 52 90 (fun x11 => [some (.ref p0), some (.int x6), some (.int x11), none]) rfl rfl rfl rfl (fun _ => rfl) (fun x11 => ?_)
        refine im_goto 53 93 26 rfl (by decide) ?_
        exact im_less _ (by simp [lv_le]) (ih x6 x11 M7)

set_option maxRecDepth 100000 in
set_option maxHeartbeats 4000000 in
theorem ip_G_measureDistances (G : gl_T) (t : Nat) (M : mm_T) : im_I mi_G_measureDistances 3 65 G M sw_v (ff_G_measureDistances t M) 0 [some (.ref t), none, none, none] [] M := by
  unfold ff_G_measureDistances
  refine im_gd (fun hg => ?_)
  refine im_aload_n 0 0 rfl rfl ?_
  refine im_getR 1 1 rfl fd_G_18 (by decide +kernel) (fun x1 => ?_)
  refine im_iconst 2 4 rfl rfl ?_
  refine im_cWv (S := []) (fun _ hv => cpS (fr' := 1) (lo' := 20) (i := 3) (As := [.ref x1, .int (-1 : Int32)]) (S := []) rfl lk_G_69 mw_D_fill_a mv_D_fill_a rfl rfl rfl rfl (sp_D_fill_a G hv)) (fun M1 => ?_)
  refine im_aload_n 4 8 rfl rfl ?_
  refine im_getR 5 9 rfl fd_G_18 (by decide +kernel) (fun x2 => ?_)
  refine im_iconst 6 12 rfl rfl ?_
  refine im_iconst 7 13 rfl rfl ?_
  refine im_cWv (S := []) (fun _ hv => cpS (fr' := 1) (lo' := 20) (i := 8) (As := [.ref x2, .int (0 : Int32), .int (0 : Int32)]) (S := []) rfl lk_G_41 mw_D_put_a mv_D_put_a rfl rfl rfl rfl (sp_D_put_a G hv)) (fun M2 => ?_)
  refine im_aload_n 9 17 rfl rfl ?_
  refine im_iconst 10 18 rfl rfl ?_
  refine im_putI 11 19 rfl fd_G_49 (Or.inl (by decide +kernel)) (by decide +kernel) (fun M3 => ?_)
  refine im_iconst 12 22 rfl rfl ?_
  refine im_istore_n 13 23 [some (.ref t), some (.int (1 : Int32)), none, none] rfl rfl rfl ?_
  refine im_iconst 14 24 rfl rfl ?_
  refine im_istore_n 15 25 [some (.ref t), some (.int (1 : Int32)), some (.int (1 : Int32)), none] rfl rfl rfl ?_
  refine im_less [some (.ref t), some (.int (1 : Int32)), some (.int (1 : Int32)), none] (by simp [lv_le]) ?_
  exact li_G_measureDistances_26 G M t fu_L (1 : Int32) (1 : Int32) M3

theorem sp_G_measureDistances (G : gl_T) {t : Nat} {M : mm_T} {y : mm_T} (h : ff_G_measureDistances t M = some y) : sp_S mi_G_measureDistances 3 65 G [.ref t] M (sw_v y).1 (sw_v y).2 := sp_of mo_G_measureDistances mw_G_measureDistances (Or.inl (by decide +kernel)) rfl rfl (Or.inl rfl) (ip_G_measureDistances G t M y h)

set_option maxRecDepth 100000 in
set_option maxHeartbeats 4000000 in
theorem ip_G_isReached (G : gl_T) (t : Nat) (a1 : Int32) (M : mm_T) : im_I mi_G_isReached 2 42 G M (sh_i M) (ff_G_isReached t a1 M) 0 [some (.ref t), some (.int a1)] [] M := by
  unfold ff_G_isReached
  refine im_gd (fun hg => ?_)
  refine im_aload_n 0 0 rfl rfl ?_
  refine im_getI 1 1 rfl fd_G_49 (by decide +kernel) (fun x1 => ?_)
  refine im_i2l 2 4 rfl ?_
  refine im_iload_n 3 5 rfl rfl ?_
  refine im_ci (S := []) (fun _ hv => cpS (fr' := 1) (lo' := 20) (i := 4) (As := [.long ((x1).toInt64), .int a1]) (S := []) rfl lk_G_53 mw_D_hasBit mv_D_hasBit rfl rfl rfl rfl (sp_D_hasBit G hv)) (fun x2 => ?_)
  exact im_endZ (fun _ => rfl) (fun hn => wp_zreturn 5 9 (ty := .boolean) rfl hn rfl)

theorem sp_G_isReached (G : gl_T) {t : Nat} {a1 : Int32} {M : mm_T} {y : Int32} (h : ff_G_isReached t a1 M = some y) : sp_S mi_G_isReached 2 42 G [.ref t, .int a1] M ((sh_i M) y).1 ((sh_i M) y).2 := sp_of mo_G_isReached mw_G_isReached (Or.inl (by decide +kernel)) rfl rfl (Or.inl rfl) (ip_G_isReached G t a1 M y h)

set_option maxRecDepth 100000 in
set_option maxHeartbeats 4000000 in
theorem li_G_narrowDominators_29 (G : gl_T) (M0 : mm_T) (k0 : Int32 → Option (Int32 × mm_T)) (p0 : Nat) (p1 : Int32) (p2 : Int32) (p4 : Int32) (M : mm_T) (hk0 : ∀ (z3 : Int32), im_I mi_G_narrowDominators 2 42 G M0 sw_i (k0 z3) 69 [some (.ref p0), some (.int p1), some (.int p2), some (.int z3), none, none] [] M) : ∀ (fu : Nat) (q3 : Int32) (q5 : Int32), im_I mi_G_narrowDominators 2 42 G M0 sw_i (lf_G_narrowDominators_29 k0 p0 p1 p2 p4 M fu q3 q5) 29 [some (.ref p0), some (.int p1), some (.int p2), some (.int q3), some (.int p4), some (.int q5)] [] M := by
  intro fu
  induction fu with
  | zero => intro _ _; exact im_none
  | succ fu ih =>
    intro q3 q5
    show im_I mi_G_narrowDominators 2 42 G M0 sw_i (lb_G_narrowDominators_29 k0 p0 p1 p2 p4 M (lf_G_narrowDominators_29 k0 p0 p1 p2 p4 M fu) q3 q5) 29 [some (.ref p0), some (.int p1), some (.int p2), some (.int q3), some (.int p4), some (.int q5)] [] M
    unfold lb_G_narrowDominators_29
    refine im_iload 17 29 rfl rfl ?_
    refine im_bipush 18 31 rfl rfl ?_
    refine im_ic_ge 19 33 69 rfl (by decide) ?_ ?_
    · exact im_less _ (by simp [lv_le]) (hk0 q3)
    · refine im_iload 20 36 rfl rfl ?_
      refine im_i2l 21 38 rfl ?_
      refine im_iload 22 39 rfl rfl ?_
      refine im_ci (S := []) (fun _ hv => cpS (fr' := 1) (lo' := 20) (i := 23) (As := [.long ((p4).toInt64), .int q5]) (S := []) rfl lk_G_53 mw_D_hasBit mv_D_hasBit rfl rfl rfl rfl (sp_D_hasBit G hv)) (fun x7 => ?_)
      refine im_jp (fun j63 => ∀ (x8 : Int32), im_I mi_G_narrowDominators 2 42 G M0 sw_i (j63 x8) 63 [some (.ref p0), some (.int p1), some (.int p2), some (.int x8), some (.int p4), some (.int q5)] [] M) ?_ (fun j63 hj63 => ?_)
      · intro x8
        show im_I mi_G_narrowDominators 2 42 G M0 sw_i (_) 63 [some (.ref p0), some (.int p1), some (.int p2), some (.int x8), some (.int p4), some (.int q5)] [] M
        refine im_iincL 36 63 (fun x9 => [some (.ref p0), some (.int p1), some (.int p2), some (.int x8), some (.int p4), some (.int x9)]) rfl rfl rfl rfl (fun _ => rfl) (fun x9 => ?_)
        refine im_goto 37 66 29 rfl (by decide) ?_
        exact im_less _ (by simp [lv_le]) (ih x8 x9)
      refine im_if_eq 24 44 63 rfl (by decide) ?_ ?_
      · exact im_less _ (by simp [lv_le]) (hj63 q3)
      · refine im_iload_n 25 47 rfl rfl ?_
        refine im_aload_n 26 48 rfl rfl ?_
        refine im_getR 27 49 rfl fd_G_21 (by decide +kernel) (fun x10 => ?_)
        refine im_iload 28 52 rfl rfl ?_
        refine im_ci (S := [.int q3]) (fun _ hv => cpS (fr' := 1) (lo' := 20) (i := 29) (As := [.ref x10, .int q5]) (S := [.int q3]) rfl lk_G_62 mw_D_at_a mv_D_at_a rfl rfl rfl rfl (sp_D_at_a G hv)) (fun x11 => ?_)
        refine im_iconst 30 57 rfl rfl ?_
        refine im_iload_n 31 58 rfl rfl ?_
        refine im_ishl 32 59 rfl ?_
        refine im_ior 33 60 rfl ?_
        refine im_iand 34 61 rfl ?_
        refine im_letI (fun x12 => ?_)
        refine im_istore_n 35 62 [some (.ref p0), some (.int p1), some (.int p2), some (.int x12), some (.int p4), some (.int q5)] rfl rfl rfl ?_
        exact im_less _ (by simp [lv_le]) (hj63 x12)

set_option maxRecDepth 100000 in
set_option maxHeartbeats 4000000 in
theorem ip_G_narrowDominators (G : gl_T) (t : Nat) (a1 : Int32) (M : mm_T) : im_I mi_G_narrowDominators 2 42 G M sw_i (ff_G_narrowDominators t a1 M) 0 [some (.ref t), some (.int a1), none, none, none, none] [] M := by
  unfold ff_G_narrowDominators
  refine im_gd (fun hg => ?_)
  refine im_aload_n 0 0 rfl rfl ?_
  refine im_getR 1 1 rfl fd_G_21 (by decide +kernel) (fun x1 => ?_)
  refine im_iload_n 2 4 rfl rfl ?_
  refine im_ci (S := []) (fun _ hv => cpS (fr' := 1) (lo' := 20) (i := 3) (As := [.ref x1, .int a1]) (S := []) rfl lk_G_62 mw_D_at_a mv_D_at_a rfl rfl rfl rfl (sp_D_at_a G hv)) (fun x2 => ?_)
  refine im_istore_n 4 8 [some (.ref t), some (.int a1), some (.int x2), none, none, none] rfl rfl rfl ?_
  refine im_iload_n 5 9 rfl rfl ?_
  refine im_istore_n 6 10 [some (.ref t), some (.int a1), some (.int x2), some (.int x2), none, none] rfl rfl rfl ?_
  refine im_aload_n 7 11 rfl rfl ?_
  refine im_getR 8 12 rfl fd_G_15 (by decide +kernel) (fun x3 => ?_)
  refine im_iload_n 9 15 rfl rfl ?_
  refine im_ci (S := []) (fun _ hv => cpS (fr' := 1) (lo' := 20) (i := 10) (As := [.ref x3, .int a1]) (S := []) rfl lk_G_62 mw_D_at_a mv_D_at_a rfl rfl rfl rfl (sp_D_at_a G hv)) (fun x4 => ?_)
  refine im_aload_n 11 19 rfl rfl ?_
  refine im_getI 12 20 rfl fd_G_49 (by decide +kernel) (fun x5 => ?_)
  refine im_iand 13 23 rfl ?_
  refine im_letI (fun x6 => ?_)
  refine im_istore 14 24 [some (.ref t), some (.int a1), some (.int x2), some (.int x2), some (.int x6), none] rfl rfl rfl ?_
  refine im_iconst 15 26 rfl rfl ?_
  refine im_istore 16 27 [some (.ref t), some (.int a1), some (.int x2), some (.int x2), some (.int x6), some (.int (0 : Int32))] rfl rfl rfl ?_
  refine im_less [some (.ref t), some (.int a1), some (.int x2), some (.int x2), some (.int x6), some (.int (0 : Int32))] (by simp [lv_le]) ?_
  refine li_G_narrowDominators_29 G M _ t a1 x2 x6 M ?_ fu_L x2 (0 : Int32)
  · intro x13
    show im_I mi_G_narrowDominators 2 42 G M sw_i (_) 69 [some (.ref t), some (.int a1), some (.int x2), some (.int x13), none, none] [] M
    refine im_aload_n 38 69 rfl rfl ?_
    refine im_getR 39 70 rfl fd_G_21 (by decide +kernel) (fun x14 => ?_)
    refine im_iload_n 40 73 rfl rfl ?_
    refine im_iload_n 41 74 rfl rfl ?_
    refine im_cWv (S := []) (fun _ hv => cpS (fr' := 1) (lo' := 20) (i := 42) (As := [.ref x14, .int a1, .int x13]) (S := []) rfl lk_G_41 mw_D_put_a mv_D_put_a rfl rfl rfl rfl (sp_D_put_a G hv)) (fun M1 => ?_)
    refine im_iload_n 43 78 rfl rfl ?_
    refine im_iload_n 44 79 rfl rfl ?_
    refine im_ic_eq 45 80 87 rfl (by decide) ?_ ?_
    · refine im_iconst 48 87 rfl rfl ?_
      exact im_end rfl (wp_zreturn 49 88 (ty := .boolean) rfl (by first | exact nz_0 | exact nz_1) rfl)
    · refine im_iconst 46 83 rfl rfl ?_
      refine im_goto 47 84 88 rfl (by decide) ?_
      exact im_end rfl (wp_zreturn 49 88 (ty := .boolean) rfl (by first | exact nz_0 | exact nz_1) rfl)

theorem sp_G_narrowDominators (G : gl_T) {t : Nat} {a1 : Int32} {M : mm_T} {y : Int32 × mm_T} (h : ff_G_narrowDominators t a1 M = some y) : sp_S mi_G_narrowDominators 2 42 G [.ref t, .int a1] M (sw_i y).1 (sw_i y).2 := sp_of mo_G_narrowDominators mw_G_narrowDominators (Or.inl (by decide +kernel)) rfl rfl (Or.inl rfl) (ip_G_narrowDominators G t a1 M y h)

set_option maxRecDepth 100000 in
set_option maxHeartbeats 4000000 in
theorem li_G_findDominators_2 (G : gl_T) (M0 : mm_T) (k0 : mm_T → Option (mm_T)) (p0 : Nat) (hk0 : ∀ (N : mm_T), im_I mi_G_findDominators 3 67 G M0 sw_v (k0 N) 38 [some (.ref p0), none, none, none] [] N) : ∀ (fu : Nat) (q1 : Int32) (N : mm_T), im_I mi_G_findDominators 3 67 G M0 sw_v (lf_G_findDominators_2 k0 p0 fu q1 N) 2 [some (.ref p0), some (.int q1), none, none] [] N := by
  intro fu
  induction fu with
  | zero => intro _ _; exact im_none
  | succ fu ih =>
    intro q1 N
    show im_I mi_G_findDominators 3 67 G M0 sw_v (lb_G_findDominators_2 k0 p0 (lf_G_findDominators_2 k0 p0 fu) q1 N) 2 [some (.ref p0), some (.int q1), none, none] [] N
    unfold lb_G_findDominators_2
    refine im_iload_n 2 2 rfl rfl ?_
    refine im_bipush 3 3 rfl rfl ?_
    refine im_ic_ge 4 5 38 rfl (by decide) ?_ ?_
    · exact im_less _ (by simp [lv_le]) (hk0 N)
    · refine im_aload_n 5 8 rfl rfl ?_
      refine im_getR 6 9 rfl fd_G_21 (by decide +kernel) (fun x1 => ?_)
      refine im_iload_n 7 12 rfl rfl ?_
      refine im_aload_n 8 13 rfl rfl ?_
      refine im_iload_n 9 14 rfl rfl ?_
      refine im_ci (S := [.int q1, .ref x1]) (fun _ hv => cpV (fr' := 2) (lo' := 42) (i := 10) (As := [.int q1]) (S := [.int q1, .ref x1]) (a := p0) (c := 2) rfl lk_G_88 mw_G_isReached mv_G_isReached rfl ⟨by decide, rfl⟩ rfl rfl rfl (gd_some hv).1 (sp_G_isReached G hv)) (fun x2 => ?_)
      refine im_jp (fun j29 => ∀ (x3 : Int32), im_I mi_G_findDominators 3 67 G M0 sw_v (j29 x3) 29 [some (.ref p0), some (.int q1), none, none] [.int x3, .int q1, .ref x1] N) ?_ (fun j29 hj29 => ?_)
      · intro x3
        show im_I mi_G_findDominators 3 67 G M0 sw_v (_) 29 [some (.ref p0), some (.int q1), none, none] [.int x3, .int q1, .ref x1] N
        refine im_cWv (S := []) (fun _ hv => cpS (fr' := 1) (lo' := 20) (i := 16) (As := [.ref x1, .int q1, .int x3]) (S := []) rfl lk_G_41 mw_D_put_a mv_D_put_a rfl rfl rfl rfl (sp_D_put_a G hv)) (fun M1 => ?_)
        refine im_iincL 17 32 (fun x4 => [some (.ref p0), some (.int x4), none, none]) rfl rfl rfl rfl (fun _ => rfl) (fun x4 => ?_)
        refine im_goto 18 35 2 rfl (by decide) ?_
        exact im_less _ (by simp [lv_le]) (ih x4 M1)
      refine im_if_eq 11 18 28 rfl (by decide) ?_ ?_
      · refine im_iconst 15 28 rfl rfl ?_
        exact im_less _ (by simp [lv_le]) (hj29 (0 : Int32))
      · refine im_aload_n 12 21 rfl rfl ?_
        refine im_getI 13 22 rfl fd_G_49 (by decide +kernel) (fun x5 => ?_)
        refine im_goto 14 25 29 rfl (by decide) ?_
        exact im_less _ (by simp [lv_le]) (hj29 x5)

set_option maxRecDepth 100000 in
set_option maxHeartbeats 4000000 in
theorem li_G_findDominators_65 (G : gl_T) (M0 : mm_T) (k0 : Int32 → mm_T → Option (mm_T)) (p0 : Nat) (p2 : Int32) (hk0 : ∀ (z1 : Int32) (N : mm_T), im_I mi_G_findDominators 3 67 G M0 sw_v (k0 z1 N) 95 [some (.ref p0), some (.int z1), some (.int p2), none] [] N) : ∀ (fu : Nat) (q1 : Int32) (q3 : Int32) (N : mm_T), im_I mi_G_findDominators 3 67 G M0 sw_v (lf_G_findDominators_65 k0 p0 p2 fu q1 q3 N) 65 [some (.ref p0), some (.int q1), some (.int p2), some (.int q3)] [] N := by
  intro fu
  induction fu with
  | zero => intro _ _ _; exact im_none
  | succ fu ih =>
    intro q1 q3 N
    show im_I mi_G_findDominators 3 67 G M0 sw_v (lb_G_findDominators_65 k0 p0 p2 (lf_G_findDominators_65 k0 p0 p2 fu) q1 q3 N) 65 [some (.ref p0), some (.int q1), some (.int p2), some (.int q3)] [] N
    unfold lb_G_findDominators_65
    refine im_iload_n 37 65 rfl rfl ?_
    refine im_bipush 38 66 rfl rfl ?_
    refine im_ic_ge 39 68 95 rfl (by decide) ?_ ?_
    · exact im_less _ (by simp [lv_le]) (hk0 q1 N)
    · refine im_aload_n 40 71 rfl rfl ?_
      refine im_iload_n 41 72 rfl rfl ?_
      refine im_ci (S := []) (fun _ hv => cpV (fr' := 2) (lo' := 42) (i := 42) (As := [.int q3]) (S := []) (a := p0) (c := 2) rfl lk_G_88 mw_G_isReached mv_G_isReached rfl ⟨by decide, rfl⟩ rfl rfl rfl (gd_some hv).1 (sp_G_isReached G hv)) (fun x7 => ?_)
      refine im_jp (fun j89 => ∀ (x8 : Int32) (M4 : mm_T), im_I mi_G_findDominators 3 67 G M0 sw_v (j89 x8 M4) 89 [some (.ref p0), some (.int x8), some (.int p2), some (.int q3)] [] M4) ?_ (fun j89 hj89 => ?_)
      · intro x8 M4
        show im_I mi_G_findDominators 3 67 G M0 sw_v (_) 89 [some (.ref p0), some (.int x8), some (.int p2), some (.int q3)] [] M4
        refine im_iincL 50 89 (fun x9 => [some (.ref p0), some (.int x8), some (.int p2), some (.int x9)]) rfl rfl rfl rfl (fun _ => rfl) (fun x9 => ?_)
        refine im_goto 51 92 65 rfl (by decide) ?_
        exact im_less _ (by simp [lv_le]) (ih x8 x9 M4)
      refine im_if_eq 43 76 89 rfl (by decide) ?_ ?_
      · exact im_less _ (by simp [lv_le]) (hj89 q1 N)
      · refine im_aload_n 44 79 rfl rfl ?_
        refine im_iload_n 45 80 rfl rfl ?_
        refine im_cWi (S := []) (fun _ _ hv => cpV (fr' := 2) (lo' := 42) (i := 46) (As := [.int q3]) (S := []) (a := p0) (c := 2) rfl lk_G_93 mw_G_narrowDominators mv_G_narrowDominators rfl ⟨by decide, rfl⟩ rfl rfl rfl (gd_some hv).1 (sp_G_narrowDominators G hv)) (fun x10 M5 => ?_)
        refine im_if_eq 47 84 89 rfl (by decide) ?_ ?_
        · exact im_less _ (by simp [lv_le]) (hj89 q1 M5)
        · refine im_iconst 48 87 rfl rfl ?_
          refine im_istore_n 49 88 [some (.ref p0), some (.int (1 : Int32)), some (.int p2), some (.int q3)] rfl rfl rfl ?_
          exact im_less _ (by simp [lv_le]) (hj89 (1 : Int32) M5)

set_option maxRecDepth 100000 in
set_option maxHeartbeats 4000000 in
theorem li_G_findDominators_51 (G : gl_T) (M0 : mm_T) (p0 : Nat) : ∀ (fu : Nat) (q1 : Int32) (q2 : Int32) (N : mm_T), im_I mi_G_findDominators 3 67 G M0 sw_v (lf_G_findDominators_51 p0 fu q1 q2 N) 51 [some (.ref p0), some (.int q1), some (.int q2), none] [] N := by
  intro fu
  induction fu with
  | zero => intro _ _ _; exact im_none
  | succ fu ih =>
    intro q1 q2 N
    show im_I mi_G_findDominators 3 67 G M0 sw_v (lb_G_findDominators_51 p0 (lf_G_findDominators_51 p0 fu) q1 q2 N) 51 [some (.ref p0), some (.int q1), some (.int q2), none] [] N
    unfold lb_G_findDominators_51
    refine im_iload_n 28 51 rfl rfl ?_
    refine im_if_eq 29 52 101 rfl (by decide) ?_ ?_
    · exact im_end rfl (wp_return 54 101 rfl rfl)
    · refine im_iload_n 30 55 rfl rfl ?_
      refine im_ldcI 31 56 (v := (100000 : Int32)) rfl (tb_m 830 (by decide +kernel) rfl) ?_
      refine im_ic_ge 32 58 101 rfl (by decide) ?_ ?_
      · exact im_end rfl (wp_return 54 101 rfl rfl)
      · refine im_iconst 33 61 rfl rfl ?_
        refine im_istore_n 34 62 [some (.ref p0), some (.int (0 : Int32)), some (.int q2), none] rfl rfl rfl ?_
        refine im_iconst 35 63 rfl rfl ?_
        refine im_istore_n 36 64 [some (.ref p0), some (.int (0 : Int32)), some (.int q2), some (.int (0 : Int32))] rfl rfl rfl ?_
        refine im_less [some (.ref p0), some (.int (0 : Int32)), some (.int q2), some (.int (0 : Int32))] (by simp [lv_le]) ?_
        refine li_G_findDominators_65 G M0 _ p0 q2 ?_ fu_L (0 : Int32) (0 : Int32) N
        · intro x11 M6
          show im_I mi_G_findDominators 3 67 G M0 sw_v (_) 95 [some (.ref p0), some (.int x11), some (.int q2), none] [] M6
          refine im_iincL 52 95 (fun x12 => [some (.ref p0), some (.int x11), some (.int x12), none]) rfl rfl rfl rfl (fun _ => rfl) (fun x12 => ?_)
          refine im_goto 53 98 51 rfl (by decide) ?_
          exact im_less _ (by simp [lv_le]) (ih x11 x12 M6)

set_option maxRecDepth 100000 in
set_option maxHeartbeats 4000000 in
theorem ip_G_findDominators (G : gl_T) (t : Nat) (M : mm_T) : im_I mi_G_findDominators 3 67 G M sw_v (ff_G_findDominators t M) 0 [some (.ref t), none, none, none] [] M := by
  unfold ff_G_findDominators
  refine im_gd (fun hg => ?_)
  refine im_iconst 0 0 rfl rfl ?_
  refine im_istore_n 1 1 [some (.ref t), some (.int (0 : Int32)), none, none] rfl rfl rfl ?_
  refine im_less [some (.ref t), some (.int (0 : Int32)), none, none] (by simp [lv_le]) ?_
  refine li_G_findDominators_2 G M _ t ?_ fu_L (0 : Int32) M
  · intro M2
    show im_I mi_G_findDominators 3 67 G M sw_v (_) 38 [some (.ref t), none, none, none] [] M2
    refine im_aload_n 19 38 rfl rfl ?_
    refine im_getR 20 39 rfl fd_G_21 (by decide +kernel) (fun x6 => ?_)
    refine im_iconst 21 42 rfl rfl ?_
    refine im_iconst 22 43 rfl rfl ?_
    refine im_cWv (S := []) (fun _ hv => cpS (fr' := 1) (lo' := 20) (i := 23) (As := [.ref x6, .int (0 : Int32), .int (1 : Int32)]) (S := []) rfl lk_G_41 mw_D_put_a mv_D_put_a rfl rfl rfl rfl (sp_D_put_a G hv)) (fun M3 => ?_)
    refine im_iconst 24 47 rfl rfl ?_
    refine im_istore_n 25 48 [some (.ref t), some (.int (1 : Int32)), none, none] rfl rfl rfl ?_
    refine im_iconst 26 49 rfl rfl ?_
    refine im_istore_n 27 50 [some (.ref t), some (.int (1 : Int32)), some (.int (0 : Int32)), none] rfl rfl rfl ?_
    refine im_less [some (.ref t), some (.int (1 : Int32)), some (.int (0 : Int32)), none] (by simp [lv_le]) ?_
    exact li_G_findDominators_51 G M t fu_L (1 : Int32) (0 : Int32) M3

theorem sp_G_findDominators (G : gl_T) {t : Nat} {M : mm_T} {y : mm_T} (h : ff_G_findDominators t M = some y) : sp_S mi_G_findDominators 3 67 G [.ref t] M (sw_v y).1 (sw_v y).2 := sp_of mo_G_findDominators mw_G_findDominators (Or.inl (by decide +kernel)) rfl rfl (Or.inl rfl) (ip_G_findDominators G t M y h)

set_option maxRecDepth 100000 in
set_option maxHeartbeats 4000000 in
theorem li_G_origins_4 (G : gl_T) (p0 : Nat) (p1 : Int32) (M : mm_T) : ∀ (fu : Nat) (q2 : Int32) (q3 : Int32), im_I mi_G_origins 2 42 G M (sh_i M) (lf_G_origins_4 p0 p1 M fu q2 q3) 4 [some (.ref p0), some (.int p1), some (.int q2), some (.int q3)] [] M := by
  intro fu
  induction fu with
  | zero => intro _ _; exact im_none
  | succ fu ih =>
    intro q2 q3
    show im_I mi_G_origins 2 42 G M (sh_i M) (lb_G_origins_4 p0 p1 M (lf_G_origins_4 p0 p1 M fu) q2 q3) 4 [some (.ref p0), some (.int p1), some (.int q2), some (.int q3)] [] M
    unfold lb_G_origins_4
    refine im_iload_n 4 4 rfl rfl ?_
    refine im_bipush 5 5 rfl rfl ?_
    refine im_ic_ge 6 7 54 rfl (by decide) ?_ ?_
    · refine im_iload_n 31 54 rfl rfl ?_
      exact im_end rfl (wp_ireturn 32 55 rfl rfl)
    · refine im_aload_n 7 10 rfl rfl ?_
      refine im_getR 8 11 rfl fd_G_15 (by decide +kernel) (fun x1 => ?_)
      refine im_iload_n 9 14 rfl rfl ?_
      refine im_ci (S := []) (fun _ hv => cpS (fr' := 1) (lo' := 20) (i := 10) (As := [.ref x1, .int p1]) (S := []) rfl lk_G_62 mw_D_at_a mv_D_at_a rfl rfl rfl rfl (sp_D_at_a G hv)) (fun x2 => ?_)
      refine im_i2l 11 18 rfl ?_
      refine im_iload_n 12 19 rfl rfl ?_
      refine im_ci (S := []) (fun _ hv => cpS (fr' := 1) (lo' := 20) (i := 13) (As := [.long ((x2).toInt64), .int q3]) (S := []) rfl lk_G_53 mw_D_hasBit mv_D_hasBit rfl rfl rfl rfl (sp_D_hasBit G hv)) (fun x3 => ?_)
      refine im_jp (fun j48 => ∀ (x4 : Int32), im_I mi_G_origins 2 42 G M (sh_i M) (j48 x4) 48 [some (.ref p0), some (.int p1), some (.int x4), some (.int q3)] [] M) ?_ (fun j48 hj48 => ?_)
      · intro x4
        show im_I mi_G_origins 2 42 G M (sh_i M) (_) 48 [some (.ref p0), some (.int p1), some (.int x4), some (.int q3)] [] M
        refine im_iincL 29 48 (fun x5 => [some (.ref p0), some (.int p1), some (.int x4), some (.int x5)]) rfl rfl rfl rfl (fun _ => rfl) (fun x5 => ?_)
        refine im_goto 30 51 4 rfl (by decide) ?_
        exact im_less _ (by simp [lv_le]) (ih x4 x5)
      refine im_if_eq 14 23 48 rfl (by decide) ?_ ?_
      · exact im_less _ (by simp [lv_le]) (hj48 q2)
      · refine im_aload_n 15 26 rfl rfl ?_
        refine im_getR 16 27 rfl fd_G_21 (by decide +kernel) (fun x6 => ?_)
        refine im_iload_n 17 30 rfl rfl ?_
        refine im_ci (S := []) (fun _ hv => cpS (fr' := 1) (lo' := 20) (i := 18) (As := [.ref x6, .int q3]) (S := []) rfl lk_G_62 mw_D_at_a mv_D_at_a rfl rfl rfl rfl (sp_D_at_a G hv)) (fun x7 => ?_)
        refine im_i2l 19 34 rfl ?_
        refine im_iload_n 20 35 rfl rfl ?_
        refine im_ci (S := []) (fun _ hv => cpS (fr' := 1) (lo' := 20) (i := 21) (As := [.long ((x7).toInt64), .int p1]) (S := []) rfl lk_G_53 mw_D_hasBit mv_D_hasBit rfl rfl rfl rfl (sp_D_hasBit G hv)) (fun x8 => ?_)
        refine im_if_eq 22 39 48 rfl (by decide) ?_ ?_
        · exact im_less _ (by simp [lv_le]) (hj48 q2)
        · refine im_iload_n 23 42 rfl rfl ?_
          refine im_iconst 24 43 rfl rfl ?_
          refine im_iload_n 25 44 rfl rfl ?_
          refine im_ishl 26 45 rfl ?_
          refine im_ior 27 46 rfl ?_
          refine im_letI (fun x9 => ?_)
          refine im_istore_n 28 47 [some (.ref p0), some (.int p1), some (.int x9), some (.int q3)] rfl rfl rfl ?_
          exact im_less _ (by simp [lv_le]) (hj48 x9)

set_option maxRecDepth 100000 in
set_option maxHeartbeats 4000000 in
theorem ip_G_origins (G : gl_T) (t : Nat) (a1 : Int32) (M : mm_T) : im_I mi_G_origins 2 42 G M (sh_i M) (ff_G_origins t a1 M) 0 [some (.ref t), some (.int a1), none, none] [] M := by
  unfold ff_G_origins
  refine im_gd (fun hg => ?_)
  refine im_iconst 0 0 rfl rfl ?_
  refine im_istore_n 1 1 [some (.ref t), some (.int a1), some (.int (0 : Int32)), none] rfl rfl rfl ?_
  refine im_iconst 2 2 rfl rfl ?_
  refine im_istore_n 3 3 [some (.ref t), some (.int a1), some (.int (0 : Int32)), some (.int (0 : Int32))] rfl rfl rfl ?_
  refine im_less [some (.ref t), some (.int a1), some (.int (0 : Int32)), some (.int (0 : Int32))] (by simp [lv_le]) ?_
  exact li_G_origins_4 G t a1 M fu_L (0 : Int32) (0 : Int32)

theorem sp_G_origins (G : gl_T) {t : Nat} {a1 : Int32} {M : mm_T} {y : Int32} (h : ff_G_origins t a1 M = some y) : sp_S mi_G_origins 2 42 G [.ref t, .int a1] M ((sh_i M) y).1 ((sh_i M) y).2 := sp_of mo_G_origins mw_G_origins (Or.inl (by decide +kernel)) rfl rfl (Or.inl rfl) (ip_G_origins G t a1 M y h)

set_option maxRecDepth 100000 in
set_option maxHeartbeats 4000000 in
theorem li_G_findBody_24 (G : gl_T) (p0 : Nat) (p3 : Int32) (M : mm_T) : ∀ (fu : Nat) (q4 : Int32) (q5 : Int32), im_I mi_G_findBody 3 65 G M (sh_i M) (lf_G_findBody_24 p0 p3 M fu q4 q5) 24 [some (.ref p0), none, none, some (.int p3), some (.int q4), some (.int q5)] [] M := by
  intro fu
  induction fu with
  | zero => intro _ _; exact im_none
  | succ fu ih =>
    intro q4 q5
    show im_I mi_G_findBody 3 65 G M (sh_i M) (lb_G_findBody_24 p0 p3 M (lf_G_findBody_24 p0 p3 M fu) q4 q5) 24 [some (.ref p0), none, none, some (.int p3), some (.int q4), some (.int q5)] [] M
    unfold lb_G_findBody_24
    refine im_iload 18 24 rfl rfl ?_
    refine im_bipush 19 26 rfl rfl ?_
    refine im_ic_ge 20 28 60 rfl (by decide) ?_ ?_
    · refine im_iload 37 60 rfl rfl ?_
      exact im_end rfl (wp_ireturn 38 62 rfl rfl)
    · refine im_iload 21 31 rfl rfl ?_
      refine im_aload_n 22 33 rfl rfl ?_
      refine im_getR 23 34 rfl fd_G_15 (by decide +kernel) (fun x4 => ?_)
      refine im_iload 24 37 rfl rfl ?_
      refine im_iload_n 25 39 rfl rfl ?_
      refine im_iconst 26 40 rfl rfl ?_
      refine im_ixor 27 41 rfl ?_
      refine im_iand 28 42 rfl ?_
      refine im_ci (S := [.int q4]) (fun _ hv => cpS (fr' := 2) (lo' := 42) (i := 29) (As := [.ref x4, .int (q4 &&& (p3 ^^^ (-1 : Int32)))]) (S := [.int q4]) rfl lk_G_85 mw_G_union mv_G_union rfl rfl rfl rfl (sp_G_union G hv)) (fun x5 => ?_)
      refine im_aload_n 30 46 rfl rfl ?_
      refine im_getI 31 47 rfl fd_G_49 (by decide +kernel) (fun x6 => ?_)
      refine im_iand 32 50 rfl ?_
      refine im_ior 33 51 rfl ?_
      refine im_letI (fun x7 => ?_)
      refine im_istore 34 52 [some (.ref p0), none, none, some (.int p3), some (.int x7), some (.int q5)] rfl rfl rfl ?_
      refine im_iincL 35 54 (fun x8 => [some (.ref p0), none, none, some (.int p3), some (.int x7), some (.int x8)]) rfl rfl rfl rfl (fun _ => rfl) (fun x8 => ?_)
      refine im_goto 36 57 24 rfl (by decide) ?_
      exact im_less _ (by simp [lv_le]) (ih x7 x8)

set_option maxRecDepth 100000 in
set_option maxHeartbeats 4000000 in
theorem ip_G_findBody (G : gl_T) (t : Nat) (a1 : Int32) (M : mm_T) : im_I mi_G_findBody 3 65 G M (sh_i M) (ff_G_findBody t a1 M) 0 [some (.ref t), some (.int a1), none, none, none, none] [] M := by
  unfold ff_G_findBody
  refine im_gd (fun hg => ?_)
  refine im_aload_n 0 0 rfl rfl ?_
  refine im_iload_n 1 1 rfl rfl ?_
  refine im_ci (S := []) (fun _ hv => cpV (fr' := 2) (lo' := 42) (i := 2) (As := [.int a1]) (S := []) (a := t) (c := 2) rfl lk_G_66 mw_G_origins mv_G_origins rfl ⟨by decide, rfl⟩ rfl rfl rfl (gd_some hv).1 (sp_G_origins G hv)) (fun x1 => ?_)
  refine im_istore_n 3 5 [some (.ref t), some (.int a1), some (.int x1), none, none, none] rfl rfl rfl ?_
  refine im_iload_n 4 6 rfl rfl ?_
  refine im_if_ne 5 7 12 rfl (by decide) ?_ ?_
  · refine im_iconst 8 12 rfl rfl ?_
    refine im_iload_n 9 13 rfl rfl ?_
    refine im_ishl 10 14 rfl ?_
    refine im_letI (fun x2 => ?_)
    refine im_istore_n 11 15 [some (.ref t), some (.int a1), some (.int x1), some (.int x2), none, none] rfl rfl rfl ?_
    refine im_iload_n 12 16 rfl rfl ?_
    refine im_iload_n 13 17 rfl rfl ?_
    refine im_ior 14 18 rfl ?_
    refine im_letI (fun x3 => ?_)
    refine im_istore 15 19 [some (.ref t), some (.int a1), some (.int x1), some (.int x2), some (.int x3), none] rfl rfl rfl ?_
    refine im_iconst 16 21 rfl rfl ?_
    refine im_istore 17 22 [some (.ref t), some (.int a1), some (.int x1), some (.int x2), some (.int x3), some (.int (0 : Int32))] rfl rfl rfl ?_
    refine im_less [some (.ref t), none, none, some (.int x2), some (.int x3), some (.int (0 : Int32))] (by simp [lv_le]) ?_
    exact li_G_findBody_24 G t x2 M fu_L x3 (0 : Int32)
  · refine im_iconst 6 10 rfl rfl ?_
    exact im_end rfl (wp_ireturn 7 11 rfl rfl)

theorem sp_G_findBody (G : gl_T) {t : Nat} {a1 : Int32} {M : mm_T} {y : Int32} (h : ff_G_findBody t a1 M = some y) : sp_S mi_G_findBody 3 65 G [.ref t, .int a1] M ((sh_i M) y).1 ((sh_i M) y).2 := sp_of mo_G_findBody mw_G_findBody (Or.inl (by decide +kernel)) rfl rfl (Or.inl rfl) (ip_G_findBody G t a1 M y h)

set_option maxRecDepth 100000 in
set_option maxHeartbeats 4000000 in
theorem li_G_analyse_15 (G : gl_T) (M0 : mm_T) (k0 : mm_T → Option (mm_T)) (p0 : Nat) (hk0 : ∀ (N : mm_T), im_I mi_G_analyse 4 90 G M0 sw_v (k0 N) 40 [some (.ref p0), none, none] [] N) : ∀ (fu : Nat) (q2 : Int32) (N : mm_T), im_I mi_G_analyse 4 90 G M0 sw_v (lf_G_analyse_15 k0 p0 fu q2 N) 15 [some (.ref p0), none, some (.int q2)] [] N := by
  intro fu
  induction fu with
  | zero => intro _ _; exact im_none
  | succ fu ih =>
    intro q2 N
    show im_I mi_G_analyse 4 90 G M0 sw_v (lb_G_analyse_15 k0 p0 (lf_G_analyse_15 k0 p0 fu) q2 N) 15 [some (.ref p0), none, some (.int q2)] [] N
    unfold lb_G_analyse_15
    refine im_iload_n 9 15 rfl rfl ?_
    refine im_bipush 10 16 rfl rfl ?_
    refine im_ic_ge 11 18 40 rfl (by decide) ?_ ?_
    · exact im_less _ (by simp [lv_le]) (hk0 N)
    · refine im_aload_n 12 21 rfl rfl ?_
      refine im_getR 13 22 rfl fd_G_24 (by decide +kernel) (fun x1 => ?_)
      refine im_iload_n 14 25 rfl rfl ?_
      refine im_aload_n 15 26 rfl rfl ?_
      refine im_iload_n 16 27 rfl rfl ?_
      refine im_ci (S := [.int q2, .ref x1]) (fun _ hv => cpV (fr' := 3) (lo' := 65) (i := 17) (As := [.int q2]) (S := [.int q2, .ref x1]) (a := p0) (c := 2) rfl lk_G_37 mw_G_findBody mv_G_findBody rfl ⟨by decide, rfl⟩ rfl rfl rfl (gd_some hv).1 (sp_G_findBody G hv)) (fun x2 => ?_)
      refine im_cWv (S := []) (fun _ hv => cpS (fr' := 1) (lo' := 20) (i := 18) (As := [.ref x1, .int q2, .int x2]) (S := []) rfl lk_G_41 mw_D_put_a mv_D_put_a rfl rfl rfl rfl (sp_D_put_a G hv)) (fun M4 => ?_)
      refine im_iincL 19 34 (fun x3 => [some (.ref p0), none, some (.int x3)]) rfl rfl rfl rfl (fun _ => rfl) (fun x3 => ?_)
      refine im_goto 20 37 15 rfl (by decide) ?_
      exact im_less _ (by simp [lv_le]) (ih x3 M4)

set_option maxRecDepth 100000 in
set_option maxHeartbeats 4000000 in
theorem ip_G_analyse (G : gl_T) (t : Nat) (a1 : Nat) (M : mm_T) : im_I mi_G_analyse 4 90 G M sw_v (ff_G_analyse t a1 M) 0 [some (.ref t), some (.ref a1), none] [] M := by
  unfold ff_G_analyse
  refine im_gd (fun hg => ?_)
  refine im_aload_n 0 0 rfl rfl ?_
  refine im_aload_n 1 1 rfl rfl ?_
  refine im_cWv (S := []) (fun _ hv => cpV (fr' := 3) (lo' := 63) (i := 2) (As := [.ref a1]) (S := []) (a := t) (c := 2) rfl lk_G_27 mw_G_readEdges mv_G_readEdges rfl ⟨by decide, rfl⟩ rfl rfl rfl (gd_some hv).1 (sp_G_readEdges G hv)) (fun M1 => ?_)
  refine im_aload_n 3 5 rfl rfl ?_
  refine im_cWv (S := []) (fun _ hv => cpV (fr' := 3) (lo' := 65) (i := 4) (As := []) (S := []) (a := t) (c := 2) rfl lk_G_31 mw_G_measureDistances mv_G_measureDistances rfl ⟨by decide, rfl⟩ rfl rfl rfl (gd_some hv).1 (sp_G_measureDistances G hv)) (fun M2 => ?_)
  refine im_aload_n 5 9 rfl rfl ?_
  refine im_cWv (S := []) (fun _ hv => cpV (fr' := 3) (lo' := 67) (i := 6) (As := []) (S := []) (a := t) (c := 2) rfl lk_G_34 mw_G_findDominators mv_G_findDominators rfl ⟨by decide, rfl⟩ rfl rfl rfl (gd_some hv).1 (sp_G_findDominators G hv)) (fun M3 => ?_)
  refine im_iconst 7 13 rfl rfl ?_
  refine im_istore_n 8 14 [some (.ref t), some (.ref a1), some (.int (0 : Int32))] rfl rfl rfl ?_
  refine im_less [some (.ref t), none, some (.int (0 : Int32))] (by simp [lv_le]) ?_
  refine li_G_analyse_15 G M _ t ?_ fu_L (0 : Int32) M3
  · intro M5
    show im_I mi_G_analyse 4 90 G M sw_v (_) 40 [some (.ref t), none, none] [] M5
    refine im_aload_n 21 40 rfl rfl ?_
    refine im_iconst 22 41 rfl rfl ?_
    refine im_putZ 23 42 rfl fd_G_45 (Or.inl (by decide +kernel)) (by decide +kernel) (fun M6 => ?_)
    exact im_end rfl (wp_return 24 45 rfl rfl)

theorem sp_G_analyse (G : gl_T) {t : Nat} {a1 : Nat} {M : mm_T} {y : mm_T} (h : ff_G_analyse t a1 M = some y) : sp_S mi_G_analyse 4 90 G [.ref t, .ref a1] M (sw_v y).1 (sw_v y).2 := sp_of mo_G_analyse mw_G_analyse (Or.inl (by decide +kernel)) rfl rfl (Or.inl rfl) (ip_G_analyse G t a1 M y h)

set_option maxRecDepth 100000 in
set_option maxHeartbeats 4000000 in
theorem ip_D_graph (G : gl_T) (t : Nat) (M : mm_T) : im_I mi_D_graph 5 112 G M sw_r (ff_D_graph t M) 0 [some (.ref t)] [] M := by
  unfold ff_D_graph
  refine im_gd (fun hg => ?_)
  refine im_aload_n 0 0 rfl rfl ?_
  refine im_getR 1 1 rfl fd_D_44 (by decide +kernel) (fun x1 => ?_)
  refine im_getI 2 4 rfl fd_D_471 (by decide +kernel) (fun x2 => ?_)
  refine im_jp (fun j21 => ∀  (M1 : mm_T), im_I mi_D_graph 5 112 G M sw_r (j21 M1) 21 [some (.ref t)] [] M1) ?_ (fun j21 hj21 => ?_)
  · intro M1
    show im_I mi_D_graph 5 112 G M sw_r (_) 21 [some (.ref t)] [] M1
    refine im_aload_n 9 21 rfl rfl ?_
    refine im_getR 10 22 rfl fd_D_44 (by decide +kernel) (fun x3 => ?_)
    exact im_end rfl (wp_areturn 11 25 rfl (Or.inl ⟨_, rfl⟩) rfl)
  refine im_if_ne 3 7 21 rfl (by decide) ?_ ?_
  · exact im_less _ (by simp [lv_le]) (hj21 M)
  · refine im_aload_n 4 10 rfl rfl ?_
    refine im_getR 5 11 rfl fd_D_44 (by decide +kernel) (fun x4 => ?_)
    refine im_aload_n 6 14 rfl rfl ?_
    refine im_getR 7 15 rfl fd_D_87 (by decide +kernel) (fun x5 => ?_)
    refine im_cWv (S := []) (fun _ hv => cpV (fr' := 4) (lo' := 90) (i := 8) (As := [.ref x5]) (S := []) (a := x4) (c := 2) rfl lk_D_478 mw_G_analyse mv_G_analyse rfl ⟨by decide, rfl⟩ rfl rfl rfl (gd_some hv).1 (sp_G_analyse G hv)) (fun M2 => ?_)
    exact im_less _ (by simp [lv_le]) (hj21 M2)

theorem sp_D_graph (G : gl_T) {t : Nat} {M : mm_T} {y : Nat × mm_T} (h : ff_D_graph t M = some y) : sp_S mi_D_graph 5 112 G [.ref t] M (sw_r y).1 (sw_r y).2 := sp_of mo_D_graph mw_D_graph (Or.inl (by decide +kernel)) rfl rfl (Or.inl rfl) (ip_D_graph G t M y h)

set_option maxRecDepth 100000 in
set_option maxHeartbeats 4000000 in
theorem ip_G_predecessorSet (G : gl_T) (t : Nat) (a1 : Int32) (M : mm_T) : im_I mi_G_predecessorSet 2 41 G M (sh_i M) (ff_G_predecessorSet t a1 M) 0 [some (.ref t), some (.int a1)] [] M := by
  unfold ff_G_predecessorSet
  refine im_gd (fun hg => ?_)
  refine im_aload_n 0 0 rfl rfl ?_
  refine im_getR 1 1 rfl fd_G_15 (by decide +kernel) (fun x1 => ?_)
  refine im_iload_n 2 4 rfl rfl ?_
  refine im_ci (S := []) (fun _ hv => cpS (fr' := 1) (lo' := 20) (i := 3) (As := [.ref x1, .int a1]) (S := []) rfl lk_G_62 mw_D_at_a mv_D_at_a rfl rfl rfl rfl (sp_D_at_a G hv)) (fun x2 => ?_)
  exact im_end rfl (wp_ireturn 4 8 rfl rfl)

theorem sp_G_predecessorSet (G : gl_T) {t : Nat} {a1 : Int32} {M : mm_T} {y : Int32} (h : ff_G_predecessorSet t a1 M = some y) : sp_S mi_G_predecessorSet 2 41 G [.ref t, .int a1] M ((sh_i M) y).1 ((sh_i M) y).2 := sp_of mo_G_predecessorSet mw_G_predecessorSet (Or.inl (by decide +kernel)) rfl rfl (Or.inl rfl) (ip_G_predecessorSet G t a1 M y h)

set_option maxRecDepth 100000 in
set_option maxHeartbeats 4000000 in
theorem ip_JI_bitCount (G : gl_T) (a1 : Int32) (M : mm_T) : im_I mi_JI_bitCount 1 20 G M (sh_i M) (ff_JI_bitCount a1 M) 0 [some (.int a1)] [] M := by
  unfold ff_JI_bitCount
  refine im_iload_n 0 0 rfl rfl ?_
  refine im_iload_n 1 1 rfl rfl ?_
  refine im_iconst 2 2 rfl rfl ?_
  refine im_iushr 3 3 rfl ?_
  refine im_ldcW 4 4 (v := (1431655765 : Int32)) rfl (tb_m 783 (by decide +kernel) rfl) ?_
  refine im_iand 5 7 rfl ?_
  refine im_isub 6 8 rfl ?_
  refine im_letI (fun x1 => ?_)
  refine im_istore_n 7 9 [some (.int x1)] rfl rfl rfl ?_
  refine im_iload_n 8 10 rfl rfl ?_
  refine im_ldcW 9 11 (v := (858993459 : Int32)) rfl (tb_m 784 (by decide +kernel) rfl) ?_
  refine im_iand 10 14 rfl ?_
  refine im_iload_n 11 15 rfl rfl ?_
  refine im_iconst 12 16 rfl rfl ?_
  refine im_iushr 13 17 rfl ?_
  refine im_ldcW 14 18 (v := (858993459 : Int32)) rfl (tb_m 784 (by decide +kernel) rfl) ?_
  refine im_iand 15 21 rfl ?_
  refine im_iadd 16 22 rfl ?_
  refine im_letI (fun x2 => ?_)
  refine im_istore_n 17 23 [some (.int x2)] rfl rfl rfl ?_
  refine im_iload_n 18 24 rfl rfl ?_
  refine im_iload_n 19 25 rfl rfl ?_
  refine im_iconst 20 26 rfl rfl ?_
  refine im_iushr 21 27 rfl ?_
  refine im_iadd 22 28 rfl ?_
  refine im_ldcW 23 29 (v := (252645135 : Int32)) rfl (tb_m 785 (by decide +kernel) rfl) ?_
  refine im_iand 24 32 rfl ?_
  refine im_letI (fun x3 => ?_)
  refine im_istore_n 25 33 [some (.int x3)] rfl rfl rfl ?_
  refine im_iload_n 26 34 rfl rfl ?_
  refine im_iload_n 27 35 rfl rfl ?_
  refine im_bipush 28 36 rfl rfl ?_
  refine im_iushr 29 38 rfl ?_
  refine im_iadd 30 39 rfl ?_
  refine im_letI (fun x4 => ?_)
  refine im_istore_n 31 40 [some (.int x4)] rfl rfl rfl ?_
  refine im_iload_n 32 41 rfl rfl ?_
  refine im_iload_n 33 42 rfl rfl ?_
  refine im_bipush 34 43 rfl rfl ?_
  refine im_iushr 35 45 rfl ?_
  refine im_iadd 36 46 rfl ?_
  refine im_letI (fun x5 => ?_)
  refine im_istore_n 37 47 [some (.int x5)] rfl rfl rfl ?_
  refine im_iload_n 38 48 rfl rfl ?_
  refine im_bipush 39 49 rfl rfl ?_
  refine im_iand 40 51 rfl ?_
  exact im_end rfl (wp_ireturn 41 52 rfl rfl)

theorem sp_JI_bitCount (G : gl_T) {a1 : Int32} {M : mm_T} {y : Int32} (h : ff_JI_bitCount a1 M = some y) : sp_S mi_JI_bitCount 1 20 G [.int a1] M ((sh_i M) y).1 ((sh_i M) y).2 := sp_of mo_JI_bitCount mw_JI_bitCount (Or.inl (by decide +kernel)) rfl rfl (Or.inl rfl) (ip_JI_bitCount G a1 M y h)

set_option maxRecDepth 100000 in
set_option maxHeartbeats 4000000 in
theorem ip_D_predecessors (G : gl_T) (t : Nat) (a1 : Int32) (M : mm_T) : im_I mi_D_predecessors 7 132 G M sX_i (ff_D_predecessors t a1 M) 0 [some (.ref t), some (.int a1)] [] M := by
  unfold ff_D_predecessors
  refine im_gd (fun hg => ?_)
  refine im_aload_n 0 0 rfl rfl ?_
  refine im_iload_n 1 1 rfl rfl ?_
  refine im_rq (S := []) (fun hv => cpV (fr' := 6) (lo' := 90) (i := 2) (As := [.int a1]) (S := []) (a := t) (c := 10) rfl lk_D_137 mw_D_requireBlock mv_D_requireBlock rfl ⟨by decide, rfl⟩ rfl rfl rfl (gd_some hv).1 (sp_D_requireBlock G hv)) (fun _ hv => xpV (fr' := 6) (lo' := 90) (i := 2) (As := [.int a1]) (S := []) (a := t) (c := 10) rfl lm_D_137 mw_D_requireBlock mv_D_requireBlock rfl ⟨by decide, rfl⟩ rfl rfl rfl (gd_some hv).1 (sp_D_requireBlock G hv) (tw_out rfl)) (fun _ => rfl) ?_
  refine im_aload_n 3 5 rfl rfl ?_
  refine im_cWr (S := []) (fun _ _ hv => cpV (fr' := 5) (lo' := 112) (i := 4) (As := []) (S := []) (a := t) (c := 10) rfl lk_D_165 mw_D_graph mv_D_graph rfl ⟨by decide, rfl⟩ rfl rfl rfl (gd_some hv).1 (sp_D_graph G hv)) (fun x1 M1 => ?_)
  refine im_iload_n 5 9 rfl rfl ?_
  refine im_ci (S := []) (fun _ hv => cpV (fr' := 2) (lo' := 41) (i := 6) (As := [.int a1]) (S := []) (a := x1) (c := 2) rfl lk_D_169 mw_G_predecessorSet mv_G_predecessorSet rfl ⟨by decide, rfl⟩ rfl rfl rfl (gd_some hv).1 (sp_G_predecessorSet G hv)) (fun x2 => ?_)
  refine im_ci (S := []) (fun _ hv => cpS (fr' := 1) (lo' := 20) (i := 7) (As := [.int x2]) (S := []) rfl lk_D_172 mw_JI_bitCount mv_JI_bitCount rfl rfl rfl rfl (sp_JI_bitCount G hv)) (fun x3 => ?_)
  exact im_end rfl (wp_ireturn 8 16 rfl rfl)

theorem sp_D_predecessors (G : gl_T) {t : Nat} {a1 : Int32} {M : mm_T} {y : (Int32 ⊕ String) × mm_T} (h : ff_D_predecessors t a1 M = some y) : sp_S mi_D_predecessors 7 132 G [.ref t, .int a1] M (sX_i y).1 (sX_i y).2 := sp_of mo_D_predecessors mw_D_predecessors (Or.inl (by decide +kernel)) rfl rfl (Or.inl rfl) (ip_D_predecessors G t a1 M y h)

set_option maxRecDepth 100000 in
set_option maxHeartbeats 4000000 in
theorem ip_D_isReachable (G : gl_T) (t : Nat) (a1 : Int32) (M : mm_T) : im_I mi_D_isReachable 7 132 G M sX_i (ff_D_isReachable t a1 M) 0 [some (.ref t), some (.int a1)] [] M := by
  unfold ff_D_isReachable
  refine im_gd (fun hg => ?_)
  refine im_aload_n 0 0 rfl rfl ?_
  refine im_iload_n 1 1 rfl rfl ?_
  refine im_rq (S := []) (fun hv => cpV (fr' := 6) (lo' := 90) (i := 2) (As := [.int a1]) (S := []) (a := t) (c := 10) rfl lk_D_137 mw_D_requireBlock mv_D_requireBlock rfl ⟨by decide, rfl⟩ rfl rfl rfl (gd_some hv).1 (sp_D_requireBlock G hv)) (fun _ hv => xpV (fr' := 6) (lo' := 90) (i := 2) (As := [.int a1]) (S := []) (a := t) (c := 10) rfl lm_D_137 mw_D_requireBlock mv_D_requireBlock rfl ⟨by decide, rfl⟩ rfl rfl rfl (gd_some hv).1 (sp_D_requireBlock G hv) (tw_out rfl)) (fun _ => rfl) ?_
  refine im_aload_n 3 5 rfl rfl ?_
  refine im_cWr (S := []) (fun _ _ hv => cpV (fr' := 5) (lo' := 112) (i := 4) (As := []) (S := []) (a := t) (c := 10) rfl lk_D_165 mw_D_graph mv_D_graph rfl ⟨by decide, rfl⟩ rfl rfl rfl (gd_some hv).1 (sp_D_graph G hv)) (fun x1 M1 => ?_)
  refine im_iload_n 5 9 rfl rfl ?_
  refine im_ci (S := []) (fun _ hv => cpV (fr' := 2) (lo' := 42) (i := 6) (As := [.int a1]) (S := []) (a := x1) (c := 2) rfl lk_D_177 mw_G_isReached mv_G_isReached rfl ⟨by decide, rfl⟩ rfl rfl rfl (gd_some hv).1 (sp_G_isReached G hv)) (fun x2 => ?_)
  exact im_endZ (fun _ => rfl) (fun hn => wp_zreturn 7 13 (ty := .boolean) rfl hn rfl)

theorem sp_D_isReachable (G : gl_T) {t : Nat} {a1 : Int32} {M : mm_T} {y : (Int32 ⊕ String) × mm_T} (h : ff_D_isReachable t a1 M = some y) : sp_S mi_D_isReachable 7 132 G [.ref t, .int a1] M (sX_i y).1 (sX_i y).2 := sp_of mo_D_isReachable mw_D_isReachable (Or.inl (by decide +kernel)) rfl rfl (Or.inl rfl) (ip_D_isReachable G t a1 M y h)

set_option maxRecDepth 100000 in
set_option maxHeartbeats 4000000 in
theorem ip_G_distance (G : gl_T) (t : Nat) (a1 : Int32) (M : mm_T) : im_I mi_G_distance 2 41 G M (sh_i M) (ff_G_distance t a1 M) 0 [some (.ref t), some (.int a1)] [] M := by
  unfold ff_G_distance
  refine im_gd (fun hg => ?_)
  refine im_aload_n 0 0 rfl rfl ?_
  refine im_getR 1 1 rfl fd_G_18 (by decide +kernel) (fun x1 => ?_)
  refine im_iload_n 2 4 rfl rfl ?_
  refine im_ci (S := []) (fun _ hv => cpS (fr' := 1) (lo' := 20) (i := 3) (As := [.ref x1, .int a1]) (S := []) rfl lk_G_62 mw_D_at_a mv_D_at_a rfl rfl rfl rfl (sp_D_at_a G hv)) (fun x2 => ?_)
  exact im_end rfl (wp_ireturn 4 8 rfl rfl)

theorem sp_G_distance (G : gl_T) {t : Nat} {a1 : Int32} {M : mm_T} {y : Int32} (h : ff_G_distance t a1 M = some y) : sp_S mi_G_distance 2 41 G [.ref t, .int a1] M ((sh_i M) y).1 ((sh_i M) y).2 := sp_of mo_G_distance mw_G_distance (Or.inl (by decide +kernel)) rfl rfl (Or.inl rfl) (ip_G_distance G t a1 M y h)

set_option maxRecDepth 100000 in
set_option maxHeartbeats 4000000 in
theorem ip_D_distanceTo (G : gl_T) (t : Nat) (a1 : Int32) (M : mm_T) : im_I mi_D_distanceTo 7 132 G M sX_i (ff_D_distanceTo t a1 M) 0 [some (.ref t), some (.int a1)] [] M := by
  unfold ff_D_distanceTo
  refine im_gd (fun hg => ?_)
  refine im_aload_n 0 0 rfl rfl ?_
  refine im_iload_n 1 1 rfl rfl ?_
  refine im_rq (S := []) (fun hv => cpV (fr' := 6) (lo' := 90) (i := 2) (As := [.int a1]) (S := []) (a := t) (c := 10) rfl lk_D_137 mw_D_requireBlock mv_D_requireBlock rfl ⟨by decide, rfl⟩ rfl rfl rfl (gd_some hv).1 (sp_D_requireBlock G hv)) (fun _ hv => xpV (fr' := 6) (lo' := 90) (i := 2) (As := [.int a1]) (S := []) (a := t) (c := 10) rfl lm_D_137 mw_D_requireBlock mv_D_requireBlock rfl ⟨by decide, rfl⟩ rfl rfl rfl (gd_some hv).1 (sp_D_requireBlock G hv) (tw_out rfl)) (fun _ => rfl) ?_
  refine im_aload_n 3 5 rfl rfl ?_
  refine im_cWr (S := []) (fun _ _ hv => cpV (fr' := 5) (lo' := 112) (i := 4) (As := []) (S := []) (a := t) (c := 10) rfl lk_D_165 mw_D_graph mv_D_graph rfl ⟨by decide, rfl⟩ rfl rfl rfl (gd_some hv).1 (sp_D_graph G hv)) (fun x1 M1 => ?_)
  refine im_iload_n 5 9 rfl rfl ?_
  refine im_ci (S := []) (fun _ hv => cpV (fr' := 2) (lo' := 41) (i := 6) (As := [.int a1]) (S := []) (a := x1) (c := 2) rfl lk_D_181 mw_G_distance mv_G_distance rfl ⟨by decide, rfl⟩ rfl rfl rfl (gd_some hv).1 (sp_G_distance G hv)) (fun x2 => ?_)
  exact im_end rfl (wp_ireturn 7 13 rfl rfl)

theorem sp_D_distanceTo (G : gl_T) {t : Nat} {a1 : Int32} {M : mm_T} {y : (Int32 ⊕ String) × mm_T} (h : ff_D_distanceTo t a1 M = some y) : sp_S mi_D_distanceTo 7 132 G [.ref t, .int a1] M (sX_i y).1 (sX_i y).2 := sp_of mo_D_distanceTo mw_D_distanceTo (Or.inl (by decide +kernel)) rfl rfl (Or.inl rfl) (ip_D_distanceTo G t a1 M y h)

set_option maxRecDepth 100000 in
set_option maxHeartbeats 4000000 in
theorem li_D_fill_b_2 (G : gl_T) (M0 : mm_T) (p0 : Nat) (p1 : Int64) : ∀ (fu : Nat) (q3 : Int32) (N : mm_T), im_I mi_D_fill_b 1 20 G M0 sw_v (lf_D_fill_b_2 p0 p1 fu q3 N) 2 [some (.ref p0), some (.long p1), none, some (.int q3)] [] N := by
  intro fu
  induction fu with
  | zero => intro _ _; exact im_none
  | succ fu ih =>
    intro q3 N
    show im_I mi_D_fill_b 1 20 G M0 sw_v (lb_D_fill_b_2 p0 p1 (lf_D_fill_b_2 p0 p1 fu) q3 N) 2 [some (.ref p0), some (.long p1), none, some (.int q3)] [] N
    unfold lb_D_fill_b_2
    refine im_iload_n 2 2 rfl rfl ?_
    refine im_aload_n 3 3 rfl rfl ?_
    refine im_arraylength 4 4 rfl (fun x1 => ?_)
    refine im_ic_ge 5 5 18 rfl (by decide) ?_ ?_
    · exact im_end rfl (wp_return 12 18 rfl rfl)
    · refine im_aload_n 6 8 rfl rfl ?_
      refine im_iload_n 7 9 rfl rfl ?_
      refine im_lload_n 8 10 rfl rfl ?_
      refine im_lastore 9 11 rfl (fun M1 => ?_)
      refine im_iincL 10 12 (fun x2 => [some (.ref p0), some (.long p1), none, some (.int x2)]) rfl rfl rfl rfl (fun _ => rfl) (fun x2 => ?_)
      refine im_goto 11 15 2 rfl (by decide) ?_
      exact im_less _ (by simp [lv_le]) (ih x2 M1)

set_option maxRecDepth 100000 in
set_option maxHeartbeats 4000000 in
theorem ip_D_fill_b (G : gl_T) (a1 : Nat) (a2 : Int64) (M : mm_T) : im_I mi_D_fill_b 1 20 G M sw_v (ff_D_fill_b a1 a2 M) 0 [some (.ref a1), some (.long a2), none, none] [] M := by
  unfold ff_D_fill_b
  refine im_iconst 0 0 rfl rfl ?_
  refine im_istore_n 1 1 [some (.ref a1), some (.long a2), none, some (.int (0 : Int32))] rfl rfl rfl ?_
  refine im_less [some (.ref a1), some (.long a2), none, some (.int (0 : Int32))] (by simp [lv_le]) ?_
  exact li_D_fill_b_2 G M a1 a2 fu_L (0 : Int32) M

theorem sp_D_fill_b (G : gl_T) {a1 : Nat} {a2 : Int64} {M : mm_T} {y : mm_T} (h : ff_D_fill_b a1 a2 M = some y) : sp_S mi_D_fill_b 1 20 G [.ref a1, .long a2] M (sw_v y).1 (sw_v y).2 := sp_of mo_D_fill_b mw_D_fill_b (Or.inl (by decide +kernel)) rfl rfl (Or.inl rfl) (ip_D_fill_b G a1 a2 M y h)

set_option maxRecDepth 100000 in
set_option maxHeartbeats 4000000 in
theorem ip_O_target (G : gl_T) (a1 : Int32) (M : mm_T) : im_I mi_O_target 1 20 G M (sh_i M) (ff_O_target a1 M) 0 [some (.int a1)] [] M := by
  unfold ff_O_target
  refine im_iload_n 0 0 rfl rfl ?_
  refine im_iconst 1 1 rfl rfl ?_
  refine im_iushr 2 2 rfl ?_
  refine im_bipush 3 3 rfl rfl ?_
  refine im_iand 4 5 rfl ?_
  exact im_end rfl (wp_ireturn 5 6 rfl rfl)

theorem sp_O_target (G : gl_T) {a1 : Int32} {M : mm_T} {y : Int32} (h : ff_O_target a1 M = some y) : sp_S mi_O_target 1 20 G [.int a1] M ((sh_i M) y).1 ((sh_i M) y).2 := sp_of mo_O_target mw_O_target (Or.inl (by decide +kernel)) rfl rfl (Or.inl rfl) (ip_O_target G a1 M y h)

set_option maxRecDepth 100000 in
set_option maxHeartbeats 4000000 in
theorem ip_P_definedAt (G : gl_T) (t : Nat) (a1 : Int32) (M : mm_T) : im_I mi_P_definedAt 3 62 G M (sh_i M) (ff_P_definedAt t a1 M) 0 [some (.ref t), some (.int a1), none] [] M := by
  unfold ff_P_definedAt
  refine im_gd (fun hg => ?_)
  refine im_aload_n 0 0 rfl rfl ?_
  refine im_iload_n 1 1 rfl rfl ?_
  refine im_ci (S := []) (fun _ hv => cpV (fr' := 2) (lo' := 41) (i := 2) (As := [.int a1]) (S := []) (a := t) (c := 7) rfl lk_P_72 mw_P_kindAt mv_P_kindAt rfl ⟨by decide, rfl⟩ rfl rfl rfl (gd_some hv).1 (sp_P_kindAt G hv)) (fun x1 => ?_)
  refine im_istore_n 3 5 [some (.ref t), some (.int a1), some (.int x1)] rfl rfl rfl ?_
  refine im_iload_n 4 6 rfl rfl ?_
  refine im_iconst 5 7 rfl rfl ?_
  refine im_jp (fun j16 => im_I mi_P_definedAt 3 62 G M (sh_i M) (j16) 16 [none, none, none] [] M) ?_ (fun j16 hj16 => ?_)
  · show im_I mi_P_definedAt 3 62 G M (sh_i M) (_) 16 [none, none, none] [] M
    refine im_iconst 10 16 rfl rfl ?_
    refine im_goto 11 17 31 rfl (by decide) ?_
    exact im_end rfl (wp_ireturn 17 31 rfl rfl)
  refine im_ic_eq 6 8 16 rfl (by decide) ?_ ?_
  · exact im_less _ (by simp [lv_le]) (hj16)
  · refine im_iload_n 7 11 rfl rfl ?_
    refine im_iconst 8 12 rfl rfl ?_
    refine im_ic_ne 9 13 20 rfl (by decide) ?_ ?_
    · refine im_aload_n 12 20 rfl rfl ?_
      refine im_getR 13 21 rfl fd_P_9 (by decide +kernel) (fun x2 => ?_)
      refine im_iload_n 14 24 rfl rfl ?_
      refine im_ci (S := []) (fun _ hv => cpS (fr' := 1) (lo' := 20) (i := 15) (As := [.ref x2, .int a1]) (S := []) rfl lk_P_41 mw_D_at_a mv_D_at_a rfl rfl rfl rfl (sp_D_at_a G hv)) (fun x3 => ?_)
      refine im_ci (S := []) (fun _ hv => cpS (fr' := 1) (lo' := 20) (i := 16) (As := [.int x3]) (S := []) rfl lk_P_75 mw_O_target mv_O_target rfl rfl rfl rfl (sp_O_target G hv)) (fun x4 => ?_)
      exact im_end rfl (wp_ireturn 17 31 rfl rfl)
    · exact im_less _ (by simp [lv_le]) (hj16)

theorem sp_P_definedAt (G : gl_T) {t : Nat} {a1 : Int32} {M : mm_T} {y : Int32} (h : ff_P_definedAt t a1 M = some y) : sp_S mi_P_definedAt 3 62 G [.ref t, .int a1] M ((sh_i M) y).1 ((sh_i M) y).2 := sp_of mo_P_definedAt mw_P_definedAt (Or.inl (by decide +kernel)) rfl rfl (Or.inl rfl) (ip_P_definedAt G t a1 M y h)

set_option maxRecDepth 100000 in
set_option maxHeartbeats 4000000 in
theorem ip_D_at_b (G : gl_T) (a1 : Nat) (a2 : Int32) (M : mm_T) : im_I mi_D_at_b 1 20 G M (sh_j M) (ff_D_at_b a1 a2 M) 0 [some (.ref a1), some (.int a2)] [] M := by
  unfold ff_D_at_b
  refine im_iload_n 0 0 rfl rfl ?_
  refine im_if_lt 1 1 16 rfl (by decide) ?_ ?_
  · refine im_lconst 10 16 rfl rfl ?_
    exact im_end rfl (wp_lreturn 11 17 rfl rfl)
  · refine im_iload_n 2 4 rfl rfl ?_
    refine im_aload_n 3 5 rfl rfl ?_
    refine im_arraylength 4 6 rfl (fun x1 => ?_)
    refine im_ic_ge 5 7 16 rfl (by decide) ?_ ?_
    · refine im_lconst 10 16 rfl rfl ?_
      exact im_end rfl (wp_lreturn 11 17 rfl rfl)
    · refine im_aload_n 6 10 rfl rfl ?_
      refine im_iload_n 7 11 rfl rfl ?_
      refine im_laload 8 12 rfl (fun x2 => ?_)
      refine im_goto 9 13 17 rfl (by decide) ?_
      exact im_end rfl (wp_lreturn 11 17 rfl rfl)

theorem sp_D_at_b (G : gl_T) {a1 : Nat} {a2 : Int32} {M : mm_T} {y : Int64} (h : ff_D_at_b a1 a2 M = some y) : sp_S mi_D_at_b 1 20 G [.ref a1, .int a2] M ((sh_j M) y).1 ((sh_j M) y).2 := sp_of mo_D_at_b mw_D_at_b (Or.inl (by decide +kernel)) rfl rfl (Or.inl rfl) (ip_D_at_b G a1 a2 M y h)

set_option maxRecDepth 100000 in
set_option maxHeartbeats 4000000 in
theorem ip_D_put_b (G : gl_T) (a1 : Nat) (a2 : Int32) (a3 : Int64) (M : mm_T) : im_I mi_D_put_b 1 20 G M sw_v (ff_D_put_b a1 a2 a3 M) 0 [some (.ref a1), some (.int a2), some (.long a3), none] [] M := by
  unfold ff_D_put_b
  refine im_iload_n 0 0 rfl rfl ?_
  refine im_if_lt 1 1 14 rfl (by decide) ?_ ?_
  · exact im_end rfl (wp_return 10 14 rfl rfl)
  · refine im_iload_n 2 4 rfl rfl ?_
    refine im_aload_n 3 5 rfl rfl ?_
    refine im_arraylength 4 6 rfl (fun x1 => ?_)
    refine im_ic_ge 5 7 14 rfl (by decide) ?_ ?_
    · exact im_end rfl (wp_return 10 14 rfl rfl)
    · refine im_aload_n 6 10 rfl rfl ?_
      refine im_iload_n 7 11 rfl rfl ?_
      refine im_lload_n 8 12 rfl rfl ?_
      refine im_lastore 9 13 rfl (fun M1 => ?_)
      exact im_end rfl (wp_return 10 14 rfl rfl)

theorem sp_D_put_b (G : gl_T) {a1 : Nat} {a2 : Int32} {a3 : Int64} {M : mm_T} {y : mm_T} (h : ff_D_put_b a1 a2 a3 M = some y) : sp_S mi_D_put_b 1 20 G [.ref a1, .int a2, .long a3] M (sw_v y).1 (sw_v y).2 := sp_of mo_D_put_b mw_D_put_b (Or.inl (by decide +kernel)) rfl rfl (Or.inl rfl) (ip_D_put_b G a1 a2 a3 M y h)

set_option maxRecDepth 100000 in
set_option maxHeartbeats 4000000 in
theorem li_R_collectDefinitions_10 (G : gl_T) (M0 : mm_T) (p0 : Nat) (p1 : Nat) : ∀ (fu : Nat) (q2 : Int32) (N : mm_T), im_I mi_R_collectDefinitions 4 84 G M0 sw_v (lf_R_collectDefinitions_10 p0 p1 fu q2 N) 10 [some (.ref p0), some (.ref p1), some (.int q2), none] [] N := by
  intro fu
  induction fu with
  | zero => intro _ _; exact im_none
  | succ fu ih =>
    intro q2 N
    show im_I mi_R_collectDefinitions 4 84 G M0 sw_v (lb_R_collectDefinitions_10 p0 p1 (lf_R_collectDefinitions_10 p0 p1 fu) q2 N) 10 [some (.ref p0), some (.ref p1), some (.int q2), none] [] N
    unfold lb_R_collectDefinitions_10
    refine im_iload_n 6 10 rfl rfl ?_
    refine im_aload_n 7 11 rfl rfl ?_
    refine im_getI 8 12 rfl fd_R_83 (by decide +kernel) (fun x2 => ?_)
    refine im_ic_ge 9 15 55 rfl (by decide) ?_ ?_
    · exact im_end rfl (wp_return 31 55 rfl rfl)
    · refine im_aload_n 10 18 rfl rfl ?_
      refine im_iload_n 11 19 rfl rfl ?_
      refine im_ci (S := []) (fun _ hv => cpV (fr' := 3) (lo' := 62) (i := 12) (As := [.int q2]) (S := []) (a := p1) (c := 7) rfl lk_R_63 mw_P_definedAt mv_P_definedAt rfl ⟨by decide, rfl⟩ rfl rfl rfl (gd_some hv).1 (sp_P_definedAt G hv)) (fun x3 => ?_)
      refine im_istore_n 13 23 [some (.ref p0), some (.ref p1), some (.int q2), some (.int x3)] rfl rfl rfl ?_
      refine im_iload_n 14 24 rfl rfl ?_
      refine im_iconst 15 25 rfl rfl ?_
      refine im_jp (fun j49 => ∀  (M2 : mm_T), im_I mi_R_collectDefinitions 4 84 G M0 sw_v (j49 M2) 49 [some (.ref p0), some (.ref p1), some (.int q2), none] [] M2) ?_ (fun j49 hj49 => ?_)
      · intro M2
        show im_I mi_R_collectDefinitions 4 84 G M0 sw_v (_) 49 [some (.ref p0), some (.ref p1), some (.int q2), none] [] M2
        refine im_iincL 29 49 (fun x4 => [some (.ref p0), some (.ref p1), some (.int x4), none]) rfl rfl rfl rfl (fun _ => rfl) (fun x4 => ?_)
        refine im_goto 30 52 10 rfl (by decide) ?_
        exact im_less _ (by simp [lv_le]) (ih x4 M2)
      refine im_ic_eq 16 26 49 rfl (by decide) ?_ ?_
      · exact im_less _ (by simp [lv_le]) (hj49 N)
      · refine im_aload_n 17 29 rfl rfl ?_
        refine im_getR 18 30 rfl fd_R_19 (by decide +kernel) (fun x5 => ?_)
        refine im_iload_n 19 33 rfl rfl ?_
        refine im_aload_n 20 34 rfl rfl ?_
        refine im_getR 21 35 rfl fd_R_19 (by decide +kernel) (fun x6 => ?_)
        refine im_iload_n 22 38 rfl rfl ?_
        refine im_cj (S := [.int x3, .ref x5]) (fun _ hv => cpS (fr' := 1) (lo' := 20) (i := 23) (As := [.ref x6, .int x3]) (S := [.int x3, .ref x5]) rfl lk_R_56 mw_D_at_b mv_D_at_b rfl rfl rfl rfl (sp_D_at_b G hv)) (fun x7 => ?_)
        refine im_lconst 24 42 rfl rfl ?_
        refine im_iload_n 25 43 rfl rfl ?_
        refine im_lshl 26 44 rfl ?_
        refine im_lor 27 45 rfl ?_
        refine im_cWv (S := []) (fun _ hv => cpS (fr' := 1) (lo' := 20) (i := 28) (As := [.ref x5, .int x3, .long (x7 ||| (jo_shl (1 : Int64) q2))]) (S := []) rfl lk_R_87 mw_D_put_b mv_D_put_b rfl rfl rfl rfl (sp_D_put_b G hv)) (fun M3 => ?_)
        exact im_less _ (by simp [lv_le]) (hj49 M3)

set_option maxRecDepth 100000 in
set_option maxHeartbeats 4000000 in
theorem ip_R_collectDefinitions (G : gl_T) (t : Nat) (a1 : Nat) (M : mm_T) : im_I mi_R_collectDefinitions 4 84 G M sw_v (ff_R_collectDefinitions t a1 M) 0 [some (.ref t), some (.ref a1), none, none] [] M := by
  unfold ff_R_collectDefinitions
  refine im_gd (fun hg => ?_)
  refine im_aload_n 0 0 rfl rfl ?_
  refine im_getR 1 1 rfl fd_R_19 (by decide +kernel) (fun x1 => ?_)
  refine im_lconst 2 4 rfl rfl ?_
  refine im_cWv (S := []) (fun _ hv => cpS (fr' := 1) (lo' := 20) (i := 3) (As := [.ref x1, .long (0 : Int64)]) (S := []) rfl lk_R_22 mw_D_fill_b mv_D_fill_b rfl rfl rfl rfl (sp_D_fill_b G hv)) (fun M1 => ?_)
  refine im_iconst 4 8 rfl rfl ?_
  refine im_istore_n 5 9 [some (.ref t), some (.ref a1), some (.int (0 : Int32)), none] rfl rfl rfl ?_
  refine im_less [some (.ref t), some (.ref a1), some (.int (0 : Int32)), none] (by simp [lv_le]) ?_
  exact li_R_collectDefinitions_10 G M t a1 fu_L (0 : Int32) M1

theorem sp_R_collectDefinitions (G : gl_T) {t : Nat} {a1 : Nat} {M : mm_T} {y : mm_T} (h : ff_R_collectDefinitions t a1 M = some y) : sp_S mi_R_collectDefinitions 4 84 G [.ref t, .ref a1] M (sw_v y).1 (sw_v y).2 := sp_of mo_R_collectDefinitions mw_R_collectDefinitions (Or.inl (by decide +kernel)) rfl rfl (Or.inl rfl) (ip_R_collectDefinitions G t a1 M y h)

set_option maxRecDepth 100000 in
set_option maxHeartbeats 4000000 in
theorem ip_P_firstPoint (G : gl_T) (t : Nat) (a1 : Int32) (M : mm_T) : im_I mi_P_firstPoint 2 41 G M (sh_i M) (ff_P_firstPoint t a1 M) 0 [some (.ref t), some (.int a1), none] [] M := by
  unfold ff_P_firstPoint
  refine im_gd (fun hg => ?_)
  refine im_aload_n 0 0 rfl rfl ?_
  refine im_getR 1 1 rfl fd_P_15 (by decide +kernel) (fun x1 => ?_)
  refine im_iload_n 2 4 rfl rfl ?_
  refine im_ci (S := []) (fun _ hv => cpS (fr' := 1) (lo' := 20) (i := 3) (As := [.ref x1, .int a1]) (S := []) rfl lk_P_41 mw_D_at_a mv_D_at_a rfl rfl rfl rfl (sp_D_at_a G hv)) (fun x2 => ?_)
  refine im_istore_n 4 8 [some (.ref t), some (.int a1), some (.int x2)] rfl rfl rfl ?_
  refine im_iload_n 5 9 rfl rfl ?_
  refine im_aload_n 6 10 rfl rfl ?_
  refine im_getR 7 11 rfl fd_P_15 (by decide +kernel) (fun x3 => ?_)
  refine im_iload_n 8 14 rfl rfl ?_
  refine im_iconst 9 15 rfl rfl ?_
  refine im_iadd 10 16 rfl ?_
  refine im_ci (S := [.int x2]) (fun _ hv => cpS (fr' := 1) (lo' := 20) (i := 11) (As := [.ref x3, .int (a1 + (1 : Int32))]) (S := [.int x2]) rfl lk_P_41 mw_D_at_a mv_D_at_a rfl rfl rfl rfl (sp_D_at_a G hv)) (fun x4 => ?_)
  refine im_ic_ge 12 20 27 rfl (by decide) ?_ ?_
  · refine im_bipush 15 27 rfl rfl ?_
    refine im_iload_n 16 29 rfl rfl ?_
    refine im_iadd 17 30 rfl ?_
    exact im_end rfl (wp_ireturn 18 31 rfl rfl)
  · refine im_iload_n 13 23 rfl rfl ?_
    refine im_goto 14 24 31 rfl (by decide) ?_
    exact im_end rfl (wp_ireturn 18 31 rfl rfl)

theorem sp_P_firstPoint (G : gl_T) {t : Nat} {a1 : Int32} {M : mm_T} {y : Int32} (h : ff_P_firstPoint t a1 M = some y) : sp_S mi_P_firstPoint 2 41 G [.ref t, .int a1] M ((sh_i M) y).1 ((sh_i M) y).2 := sp_of mo_P_firstPoint mw_P_firstPoint (Or.inl (by decide +kernel)) rfl rfl (Or.inl rfl) (ip_P_firstPoint G t a1 M y h)

set_option maxRecDepth 100000 in
set_option maxHeartbeats 4000000 in
theorem ip_P_hasPoint (G : gl_T) (t : Nat) (a1 : Int32) (M : mm_T) : im_I mi_P_hasPoint 1 20 G M (sh_i M) (ff_P_hasPoint t a1 M) 0 [some (.ref t), some (.int a1)] [] M := by
  unfold ff_P_hasPoint
  refine im_gd (fun hg => ?_)
  refine im_iload_n 0 0 rfl rfl ?_
  refine im_bipush 1 1 rfl rfl ?_
  refine im_ic_ge 2 3 22 rfl (by decide) ?_ ?_
  · refine im_iload_n 11 22 rfl rfl ?_
    refine im_bipush 12 23 rfl rfl ?_
    refine im_isub 13 25 rfl ?_
    refine im_aload_n 14 26 rfl rfl ?_
    refine im_getI 15 27 rfl fd_P_30 (by decide +kernel) (fun x1 => ?_)
    refine im_ic_ge 16 30 37 rfl (by decide) ?_ ?_
    · refine im_iconst 19 37 rfl rfl ?_
      exact im_end rfl (wp_zreturn 20 38 (ty := .boolean) rfl (by first | exact nz_0 | exact nz_1) rfl)
    · refine im_iconst 17 33 rfl rfl ?_
      refine im_goto 18 34 38 rfl (by decide) ?_
      exact im_end rfl (wp_zreturn 20 38 (ty := .boolean) rfl (by first | exact nz_0 | exact nz_1) rfl)
  · refine im_iload_n 3 6 rfl rfl ?_
    refine im_aload_n 4 7 rfl rfl ?_
    refine im_getI 5 8 rfl fd_P_34 (by decide +kernel) (fun x2 => ?_)
    refine im_ic_ge 6 11 18 rfl (by decide) ?_ ?_
    · refine im_iconst 9 18 rfl rfl ?_
      refine im_goto 10 19 38 rfl (by decide) ?_
      exact im_end rfl (wp_zreturn 20 38 (ty := .boolean) rfl (by first | exact nz_0 | exact nz_1) rfl)
    · refine im_iconst 7 14 rfl rfl ?_
      refine im_goto 8 15 38 rfl (by decide) ?_
      exact im_end rfl (wp_zreturn 20 38 (ty := .boolean) rfl (by first | exact nz_0 | exact nz_1) rfl)

theorem sp_P_hasPoint (G : gl_T) {t : Nat} {a1 : Int32} {M : mm_T} {y : Int32} (h : ff_P_hasPoint t a1 M = some y) : sp_S mi_P_hasPoint 1 20 G [.ref t, .int a1] M ((sh_i M) y).1 ((sh_i M) y).2 := sp_of mo_P_hasPoint mw_P_hasPoint (Or.inl (by decide +kernel)) rfl rfl (Or.inl rfl) (ip_P_hasPoint G t a1 M y h)

set_option maxRecDepth 100000 in
set_option maxHeartbeats 4000000 in
theorem ip_P_nextCount (G : gl_T) (t : Nat) (a1 : Int32) (M : mm_T) : im_I mi_P_nextCount 2 41 G M (sh_i M) (ff_P_nextCount t a1 M) 0 [some (.ref t), some (.int a1)] [] M := by
  unfold ff_P_nextCount
  refine im_gd (fun hg => ?_)
  refine im_iload_n 0 0 rfl rfl ?_
  refine im_bipush 1 1 rfl rfl ?_
  refine im_ic_ge 2 3 10 rfl (by decide) ?_ ?_
  · refine im_aload_n 5 10 rfl rfl ?_
    refine im_getR 6 11 rfl fd_P_18 (by decide +kernel) (fun x1 => ?_)
    refine im_iload_n 7 14 rfl rfl ?_
    refine im_bipush 8 15 rfl rfl ?_
    refine im_isub 9 17 rfl ?_
    refine im_ci (S := []) (fun _ hv => cpS (fr' := 1) (lo' := 20) (i := 10) (As := [.ref x1, .int (a1 - (40 : Int32))]) (S := []) rfl lk_P_41 mw_D_at_a mv_D_at_a rfl rfl rfl rfl (sp_D_at_a G hv)) (fun x2 => ?_)
    exact im_end rfl (wp_ireturn 11 21 rfl rfl)
  · refine im_iconst 3 6 rfl rfl ?_
    refine im_goto 4 7 21 rfl (by decide) ?_
    exact im_end rfl (wp_ireturn 11 21 rfl rfl)

theorem sp_P_nextCount (G : gl_T) {t : Nat} {a1 : Int32} {M : mm_T} {y : Int32} (h : ff_P_nextCount t a1 M = some y) : sp_S mi_P_nextCount 2 41 G [.ref t, .int a1] M ((sh_i M) y).1 ((sh_i M) y).2 := sp_of mo_P_nextCount mw_P_nextCount (Or.inl (by decide +kernel)) rfl rfl (Or.inl rfl) (ip_P_nextCount G t a1 M y h)

set_option maxRecDepth 100000 in
set_option maxHeartbeats 4000000 in
theorem ip_P_nextPoint (G : gl_T) (t : Nat) (a1 : Int32) (a2 : Int32) (M : mm_T) : im_I mi_P_nextPoint 3 63 G M (sh_i M) (ff_P_nextPoint t a1 a2 M) 0 [some (.ref t), some (.int a1), some (.int a2), none] [] M := by
  unfold ff_P_nextPoint
  refine im_gd (fun hg => ?_)
  refine im_iload_n 0 0 rfl rfl ?_
  refine im_bipush 1 1 rfl rfl ?_
  refine im_ic_lt 2 3 20 rfl (by decide) ?_ ?_
  · refine im_aload_n 12 20 rfl rfl ?_
    refine im_iload_n 13 21 rfl rfl ?_
    refine im_ci (S := []) (fun _ hv => cpV (fr' := 2) (lo' := 41) (i := 14) (As := [.int a1]) (S := []) (a := t) (c := 7) rfl lk_P_57 mw_P_blockAt mv_P_blockAt rfl ⟨by decide, rfl⟩ rfl rfl rfl (gd_some hv).1 (sp_P_blockAt G hv)) (fun x1 => ?_)
    refine im_istore_n 15 25 [some (.ref t), some (.int a1), some (.int a2), some (.int x1)] rfl rfl rfl ?_
    refine im_iload_n 16 26 rfl rfl ?_
    refine im_iconst 17 27 rfl rfl ?_
    refine im_iadd 18 28 rfl ?_
    refine im_aload_n 19 29 rfl rfl ?_
    refine im_getR 20 30 rfl fd_P_15 (by decide +kernel) (fun x2 => ?_)
    refine im_iload_n 21 33 rfl rfl ?_
    refine im_iconst 22 34 rfl rfl ?_
    refine im_iadd 23 35 rfl ?_
    refine im_ci (S := [.int (a1 + (1 : Int32))]) (fun _ hv => cpS (fr' := 1) (lo' := 20) (i := 24) (As := [.ref x2, .int (x1 + (1 : Int32))]) (S := [.int (a1 + (1 : Int32))]) rfl lk_P_41 mw_D_at_a mv_D_at_a rfl rfl rfl rfl (sp_D_at_a G hv)) (fun x3 => ?_)
    refine im_ic_ge 25 39 48 rfl (by decide) ?_ ?_
    · refine im_bipush 30 48 rfl rfl ?_
      refine im_iload_n 31 50 rfl rfl ?_
      refine im_iadd 32 51 rfl ?_
      exact im_end rfl (wp_ireturn 33 52 rfl rfl)
    · refine im_iload_n 26 42 rfl rfl ?_
      refine im_iconst 27 43 rfl rfl ?_
      refine im_iadd 28 44 rfl ?_
      refine im_goto 29 45 52 rfl (by decide) ?_
      exact im_end rfl (wp_ireturn 33 52 rfl rfl)
  · refine im_aload_n 3 6 rfl rfl ?_
    refine im_aload_n 4 7 rfl rfl ?_
    refine im_iload_n 5 8 rfl rfl ?_
    refine im_bipush 6 9 rfl rfl ?_
    refine im_isub 7 11 rfl ?_
    refine im_iload_n 8 12 rfl rfl ?_
    refine im_ci (S := [.ref t]) (fun _ hv => cpV (fr' := 2) (lo' := 41) (i := 9) (As := [.int (a1 - (40 : Int32)), .int a2]) (S := [.ref t]) (a := t) (c := 7) rfl lk_P_65 mw_P_wayOf mv_P_wayOf rfl ⟨by decide, rfl⟩ rfl rfl rfl (gd_some hv).1 (sp_P_wayOf G hv)) (fun x4 => ?_)
    refine im_ci (S := []) (fun _ hv => cpV (fr' := 2) (lo' := 41) (i := 10) (As := [.int x4]) (S := []) (a := t) (c := 7) rfl lk_P_69 mw_P_firstPoint mv_P_firstPoint rfl ⟨by decide, rfl⟩ rfl rfl rfl (gd_some hv).1 (sp_P_firstPoint G hv)) (fun x5 => ?_)
    exact im_end rfl (wp_ireturn 11 19 rfl rfl)

theorem sp_P_nextPoint (G : gl_T) {t : Nat} {a1 : Int32} {a2 : Int32} {M : mm_T} {y : Int32} (h : ff_P_nextPoint t a1 a2 M = some y) : sp_S mi_P_nextPoint 3 63 G [.ref t, .int a1, .int a2] M ((sh_i M) y).1 ((sh_i M) y).2 := sp_of mo_P_nextPoint mw_P_nextPoint (Or.inl (by decide +kernel)) rfl rfl (Or.inl rfl) (ip_P_nextPoint G t a1 a2 M y h)

set_option maxRecDepth 100000 in
set_option maxHeartbeats 4000000 in
theorem ip_R_join (G : gl_T) (t : Nat) (a1 : Int32) (a2 : Int64) (a3 : Int32) (M : mm_T) : im_I mi_R_join 2 43 G M sw_i (ff_R_join t a1 a2 a3 M) 0 [some (.ref t), some (.int a1), some (.long a2), none, some (.int a3), none, none, none, none] [] M := by
  unfold ff_R_join
  refine im_gd (fun hg => ?_)
  refine im_aload_n 0 0 rfl rfl ?_
  refine im_getR 1 1 rfl fd_R_9 (by decide +kernel) (fun x1 => ?_)
  refine im_iload_n 2 4 rfl rfl ?_
  refine im_cj (S := []) (fun _ hv => cpS (fr' := 1) (lo' := 20) (i := 3) (As := [.ref x1, .int a1]) (S := []) rfl lk_R_56 mw_D_at_b mv_D_at_b rfl rfl rfl rfl (sp_D_at_b G hv)) (fun x2 => ?_)
  refine im_lload_n 4 8 rfl rfl ?_
  refine im_lor 5 9 rfl ?_
  refine im_letJ (fun x3 => ?_)
  refine im_lstore 6 10 [some (.ref t), some (.int a1), some (.long a2), none, some (.int a3), some (.long x3), none, none, none] rfl rfl rfl ?_
  refine im_aload_n 7 12 rfl rfl ?_
  refine im_getR 8 13 rfl fd_R_15 (by decide +kernel) (fun x4 => ?_)
  refine im_iload_n 9 16 rfl rfl ?_
  refine im_ci (S := []) (fun _ hv => cpS (fr' := 1) (lo' := 20) (i := 10) (As := [.ref x4, .int a1]) (S := []) rfl lk_R_60 mw_D_at_a mv_D_at_a rfl rfl rfl rfl (sp_D_at_a G hv)) (fun x5 => ?_)
  refine im_iload 11 20 rfl rfl ?_
  refine im_ior 12 22 rfl ?_
  refine im_letI (fun x6 => ?_)
  refine im_istore 13 23 [some (.ref t), some (.int a1), some (.long a2), none, some (.int a3), some (.long x3), none, some (.int x6), none] rfl rfl rfl ?_
  refine im_lload 14 25 rfl rfl ?_
  refine im_aload_n 15 27 rfl rfl ?_
  refine im_getR 16 28 rfl fd_R_9 (by decide +kernel) (fun x7 => ?_)
  refine im_iload_n 17 31 rfl rfl ?_
  refine im_cj (S := [.long x3]) (fun _ hv => cpS (fr' := 1) (lo' := 20) (i := 18) (As := [.ref x7, .int a1]) (S := [.long x3]) rfl lk_R_56 mw_D_at_b mv_D_at_b rfl rfl rfl rfl (sp_D_at_b G hv)) (fun x8 => ?_)
  refine im_lcmp 19 35 rfl ?_
  refine im_jp (fun j57 => ∀ (x9 : Int32), im_I mi_R_join 2 43 G M sw_i (j57 x9) 57 [some (.ref t), some (.int a1), none, none, none, some (.long x3), none, some (.int x6), none] [.int x9] M) ?_ (fun j57 hj57 => ?_)
  · intro x9
    show im_I mi_R_join 2 43 G M sw_i (_) 57 [some (.ref t), some (.int a1), none, none, none, some (.long x3), none, some (.int x6), none] [.int x9] M
    refine im_istore 30 57 [some (.ref t), some (.int a1), none, none, none, some (.long x3), none, some (.int x6), some (.int x9)] rfl rfl rfl ?_
    refine im_aload_n 31 59 rfl rfl ?_
    refine im_getR 32 60 rfl fd_R_9 (by decide +kernel) (fun x10 => ?_)
    refine im_iload_n 33 63 rfl rfl ?_
    refine im_lload 34 64 rfl rfl ?_
    refine im_cWv (S := []) (fun _ hv => cpS (fr' := 1) (lo' := 20) (i := 35) (As := [.ref x10, .int a1, .long x3]) (S := []) rfl lk_R_87 mw_D_put_b mv_D_put_b rfl rfl rfl rfl (sp_D_put_b G hv)) (fun M1 => ?_)
    refine im_aload_n 36 69 rfl rfl ?_
    refine im_getR 37 70 rfl fd_R_15 (by decide +kernel) (fun x11 => ?_)
    refine im_iload_n 38 73 rfl rfl ?_
    refine im_iload 39 74 rfl rfl ?_
    refine im_cWv (S := []) (fun _ hv => cpS (fr' := 1) (lo' := 20) (i := 40) (As := [.ref x11, .int a1, .int x6]) (S := []) rfl lk_R_39 mw_D_put_a mv_D_put_a rfl rfl rfl rfl (sp_D_put_a G hv)) (fun M2 => ?_)
    refine im_iload 41 79 rfl rfl ?_
    exact im_endZ (fun _ => rfl) (fun hn => wp_zreturn 42 81 (ty := .boolean) rfl hn rfl)
  refine im_jp (fun j52 => im_I mi_R_join 2 43 G M sw_i (j52) 52 [some (.ref t), some (.int a1), none, none, none, some (.long x3), none, some (.int x6), none] [] M) ?_ (fun j52 hj52 => ?_)
  · show im_I mi_R_join 2 43 G M sw_i (_) 52 [some (.ref t), some (.int a1), none, none, none, some (.long x3), none, some (.int x6), none] [] M
    refine im_iconst 27 52 rfl rfl ?_
    refine im_goto 28 53 57 rfl (by decide) ?_
    exact im_less _ (by simp [lv_le]) (hj57 (1 : Int32))
  refine im_if_ne 20 36 52 rfl (by decide) ?_ ?_
  · exact im_less _ (by simp [lv_le]) (hj52)
  · refine im_iload 21 39 rfl rfl ?_
    refine im_aload_n 22 41 rfl rfl ?_
    refine im_getR 23 42 rfl fd_R_15 (by decide +kernel) (fun x12 => ?_)
    refine im_iload_n 24 45 rfl rfl ?_
    refine im_ci (S := [.int x6]) (fun _ hv => cpS (fr' := 1) (lo' := 20) (i := 25) (As := [.ref x12, .int a1]) (S := [.int x6]) rfl lk_R_60 mw_D_at_a mv_D_at_a rfl rfl rfl rfl (sp_D_at_a G hv)) (fun x13 => ?_)
    refine im_ic_eq 26 49 56 rfl (by decide) ?_ ?_
    · refine im_iconst 29 56 rfl rfl ?_
      exact im_less _ (by simp [lv_le]) (hj57 (0 : Int32))
    · exact im_less _ (by simp [lv_le]) (hj52)

theorem sp_R_join (G : gl_T) {t : Nat} {a1 : Int32} {a2 : Int64} {a3 : Int32} {M : mm_T} {y : Int32 × mm_T} (h : ff_R_join t a1 a2 a3 M = some y) : sp_S mi_R_join 2 43 G [.ref t, .int a1, .long a2, .int a3] M (sw_i y).1 (sw_i y).2 := sp_of mo_R_join mw_R_join (Or.inl (by decide +kernel)) rfl rfl (Or.inl rfl) (ip_R_join G t a1 a2 a3 M y h)

set_option maxRecDepth 100000 in
set_option maxHeartbeats 4000000 in
theorem li_R_flow_69 (G : gl_T) (M0 : mm_T) (p0 : Nat) (p1 : Nat) (p2 : Int32) (p3 : Int64) (p5 : Int32) : ∀ (fu : Nat) (q7 : Int32) (q8 : Int32) (N : mm_T), im_I mi_R_flow 4 86 G M0 sw_i (lf_R_flow_69 p0 p1 p2 p3 p5 fu q7 q8 N) 69 [some (.ref p0), some (.ref p1), some (.int p2), some (.long p3), none, some (.int p5), none, some (.int q7), some (.int q8)] [] N := by
  intro fu
  induction fu with
  | zero => intro _ _ _; exact im_none
  | succ fu ih =>
    intro q7 q8 N
    show im_I mi_R_flow 4 86 G M0 sw_i (lb_R_flow_69 p0 p1 p2 p3 p5 (lf_R_flow_69 p0 p1 p2 p3 p5 fu) q7 q8 N) 69 [some (.ref p0), some (.ref p1), some (.int p2), some (.long p3), none, some (.int p5), none, some (.int q7), some (.int q8)] [] N
    unfold lb_R_flow_69
    refine im_iload 42 69 rfl rfl ?_
    refine im_aload_n 43 71 rfl rfl ?_
    refine im_iload_n 44 72 rfl rfl ?_
    refine im_ci (S := [.int q8]) (fun _ hv => cpV (fr' := 2) (lo' := 41) (i := 45) (As := [.int p2]) (S := [.int q8]) (a := p1) (c := 7) rfl lk_R_92 mw_P_nextCount mv_P_nextCount rfl ⟨by decide, rfl⟩ rfl rfl rfl (gd_some hv).1 (sp_P_nextCount G hv)) (fun x8 => ?_)
    refine im_ic_ge 46 76 105 rfl (by decide) ?_ ?_
    · refine im_iload 60 105 rfl rfl ?_
      exact im_endZ (fun _ => rfl) (fun hn => wp_zreturn 61 107 (ty := .boolean) rfl hn rfl)
    · refine im_aload_n 47 79 rfl rfl ?_
      refine im_aload_n 48 80 rfl rfl ?_
      refine im_iload_n 49 81 rfl rfl ?_
      refine im_iload 50 82 rfl rfl ?_
      refine im_ci (S := [.ref p0]) (fun _ hv => cpV (fr' := 3) (lo' := 63) (i := 51) (As := [.int p2, .int q8]) (S := [.ref p0]) (a := p1) (c := 7) rfl lk_R_95 mw_P_nextPoint mv_P_nextPoint rfl ⟨by decide, rfl⟩ rfl rfl rfl (gd_some hv).1 (sp_P_nextPoint G hv)) (fun x9 => ?_)
      refine im_lload_n 52 87 rfl rfl ?_
      refine im_iload 53 88 rfl rfl ?_
      refine im_cWi (S := []) (fun _ _ hv => cpV (fr' := 2) (lo' := 43) (i := 54) (As := [.int x9, .long p3, .int p5]) (S := []) (a := p0) (c := 8) rfl lk_R_99 mw_R_join mv_R_join rfl ⟨by decide, rfl⟩ rfl rfl rfl (gd_some hv).1 (sp_R_join G hv)) (fun x10 M1 => ?_)
      refine im_jp (fun j99 => ∀ (x11 : Int32), im_I mi_R_flow 4 86 G M0 sw_i (j99 x11) 99 [some (.ref p0), some (.ref p1), some (.int p2), some (.long p3), none, some (.int p5), none, some (.int x11), some (.int q8)] [] M1) ?_ (fun j99 hj99 => ?_)
      · intro x11
        show im_I mi_R_flow 4 86 G M0 sw_i (_) 99 [some (.ref p0), some (.ref p1), some (.int p2), some (.long p3), none, some (.int p5), none, some (.int x11), some (.int q8)] [] M1
        refine im_iincL 58 99 (fun x12 => [some (.ref p0), some (.ref p1), some (.int p2), some (.long p3), none, some (.int p5), none, some (.int x11), some (.int x12)]) rfl rfl rfl rfl (fun _ => rfl) (fun x12 => ?_)
        refine im_goto 59 102 69 rfl (by decide) ?_
        exact im_less _ (by simp [lv_le]) (ih x11 x12 M1)
      refine im_if_eq 55 93 99 rfl (by decide) ?_ ?_
      · exact im_less _ (by simp [lv_le]) (hj99 q7)
      · refine im_iconst 56 96 rfl rfl ?_
        refine im_istore 57 97 [some (.ref p0), some (.ref p1), some (.int p2), some (.long p3), none, some (.int p5), none, some (.int (1 : Int32)), some (.int q8)] rfl rfl rfl ?_
        exact im_less _ (by simp [lv_le]) (hj99 (1 : Int32))

set_option maxRecDepth 100000 in
set_option maxHeartbeats 4000000 in
theorem ip_R_flow (G : gl_T) (t : Nat) (a1 : Nat) (a2 : Int32) (M : mm_T) : im_I mi_R_flow 4 86 G M sw_i (ff_R_flow t a1 a2 M) 0 [some (.ref t), some (.ref a1), some (.int a2), none, none, none, none, none, none] [] M := by
  unfold ff_R_flow
  refine im_gd (fun hg => ?_)
  refine im_aload_n 0 0 rfl rfl ?_
  refine im_getR 1 1 rfl fd_R_9 (by decide +kernel) (fun x1 => ?_)
  refine im_iload_n 2 4 rfl rfl ?_
  refine im_cj (S := []) (fun _ hv => cpS (fr' := 1) (lo' := 20) (i := 3) (As := [.ref x1, .int a2]) (S := []) rfl lk_R_56 mw_D_at_b mv_D_at_b rfl rfl rfl rfl (sp_D_at_b G hv)) (fun x2 => ?_)
  refine im_lstore_n 4 8 [some (.ref t), some (.ref a1), some (.int a2), some (.long x2), none, none, none, none, none] rfl rfl rfl ?_
  refine im_aload_n 5 9 rfl rfl ?_
  refine im_getR 6 10 rfl fd_R_15 (by decide +kernel) (fun x3 => ?_)
  refine im_iload_n 7 13 rfl rfl ?_
  refine im_ci (S := []) (fun _ hv => cpS (fr' := 1) (lo' := 20) (i := 8) (As := [.ref x3, .int a2]) (S := []) rfl lk_R_60 mw_D_at_a mv_D_at_a rfl rfl rfl rfl (sp_D_at_a G hv)) (fun x4 => ?_)
  refine im_istore 9 17 [some (.ref t), some (.ref a1), some (.int a2), some (.long x2), none, some (.int x4), none, none, none] rfl rfl rfl ?_
  refine im_aload_n 10 19 rfl rfl ?_
  refine im_iload_n 11 20 rfl rfl ?_
  refine im_ci (S := []) (fun _ hv => cpV (fr' := 3) (lo' := 62) (i := 12) (As := [.int a2]) (S := []) (a := a1) (c := 7) rfl lk_R_63 mw_P_definedAt mv_P_definedAt rfl ⟨by decide, rfl⟩ rfl rfl rfl (gd_some hv).1 (sp_P_definedAt G hv)) (fun x5 => ?_)
  refine im_istore 13 24 [some (.ref t), some (.ref a1), some (.int a2), some (.long x2), none, some (.int x4), some (.int x5), none, none] rfl rfl rfl ?_
  refine im_iload 14 26 rfl rfl ?_
  refine im_iconst 15 28 rfl rfl ?_
  refine im_jp (fun j63 => ∀ (x6 : Int64) (x7 : Int32), im_I mi_R_flow 4 86 G M sw_i (j63 x6 x7) 63 [some (.ref t), some (.ref a1), some (.int a2), some (.long x6), none, some (.int x7), none, none, none] [] M) ?_ (fun j63 hj63 => ?_)
  · intro x6 x7
    show im_I mi_R_flow 4 86 G M sw_i (_) 63 [some (.ref t), some (.ref a1), some (.int a2), some (.long x6), none, some (.int x7), none, none, none] [] M
    refine im_iconst 38 63 rfl rfl ?_
    refine im_istore 39 64 [some (.ref t), some (.ref a1), some (.int a2), some (.long x6), none, some (.int x7), none, some (.int (0 : Int32)), none] rfl rfl rfl ?_
    refine im_iconst 40 66 rfl rfl ?_
    refine im_istore 41 67 [some (.ref t), some (.ref a1), some (.int a2), some (.long x6), none, some (.int x7), none, some (.int (0 : Int32)), some (.int (0 : Int32))] rfl rfl rfl ?_
    refine im_less [some (.ref t), some (.ref a1), some (.int a2), some (.long x6), none, some (.int x7), none, some (.int (0 : Int32)), some (.int (0 : Int32))] (by simp [lv_le]) ?_
    exact li_R_flow_69 G M t a1 a2 x6 x7 fu_L (0 : Int32) (0 : Int32) M
  refine im_ic_eq 16 29 63 rfl (by decide) ?_ ?_
  · exact im_less _ (by simp [lv_le]) (hj63 x2 x4)
  · refine im_lload_n 17 32 rfl rfl ?_
    refine im_aload_n 18 33 rfl rfl ?_
    refine im_getR 19 34 rfl fd_R_19 (by decide +kernel) (fun x13 => ?_)
    refine im_iload 20 37 rfl rfl ?_
    refine im_cj (S := [.long x2]) (fun _ hv => cpS (fr' := 1) (lo' := 20) (i := 21) (As := [.ref x13, .int x5]) (S := [.long x2]) rfl lk_R_56 mw_D_at_b mv_D_at_b rfl rfl rfl rfl (sp_D_at_b G hv)) (fun x14 => ?_)
    refine im_ldc2 22 42 (v := (-1 : Int64)) rfl (tb_m 1021 (by decide +kernel) rfl) ?_
    refine im_lxor 23 45 rfl ?_
    refine im_land 24 46 rfl ?_
    refine im_lconst 25 47 rfl rfl ?_
    refine im_iload_n 26 48 rfl rfl ?_
    refine im_lshl 27 49 rfl ?_
    refine im_lor 28 50 rfl ?_
    refine im_letJ (fun x15 => ?_)
    refine im_lstore_n 29 51 [some (.ref t), some (.ref a1), some (.int a2), some (.long x15), none, some (.int x4), some (.int x5), none, none] rfl rfl rfl ?_
    refine im_iload 30 52 rfl rfl ?_
    refine im_iconst 31 54 rfl rfl ?_
    refine im_iload 32 55 rfl rfl ?_
    refine im_ishl 33 57 rfl ?_
    refine im_iconst 34 58 rfl rfl ?_
    refine im_ixor 35 59 rfl ?_
    refine im_iand 36 60 rfl ?_
    refine im_letI (fun x16 => ?_)
    refine im_istore 37 61 [some (.ref t), some (.ref a1), some (.int a2), some (.long x15), none, some (.int x16), some (.int x5), none, none] rfl rfl rfl ?_
    exact im_less _ (by simp [lv_le]) (hj63 x15 x16)

theorem sp_R_flow (G : gl_T) {t : Nat} {a1 : Nat} {a2 : Int32} {M : mm_T} {y : Int32 × mm_T} (h : ff_R_flow t a1 a2 M = some y) : sp_S mi_R_flow 4 86 G [.ref t, .ref a1, .int a2] M (sw_i y).1 (sw_i y).2 := sp_of mo_R_flow mw_R_flow (Or.inl (by decide +kernel)) rfl rfl (Or.inl rfl) (ip_R_flow G t a1 a2 M y h)

set_option maxRecDepth 100000 in
set_option maxHeartbeats 4000000 in
theorem li_R_analyse_55 (G : gl_T) (M0 : mm_T) (k0 : Int32 → mm_T → Option (mm_T)) (p0 : Nat) (p1 : Nat) (p3 : Int32) (hk0 : ∀ (z2 : Int32) (N : mm_T), im_I mi_R_analyse 5 114 G M0 sw_v (k0 z2 N) 89 [some (.ref p0), some (.ref p1), some (.int z2), some (.int p3), none] [] N) : ∀ (fu : Nat) (q2 : Int32) (q4 : Int32) (N : mm_T), im_I mi_R_analyse 5 114 G M0 sw_v (lf_R_analyse_55 k0 p0 p1 p3 fu q2 q4 N) 55 [some (.ref p0), some (.ref p1), some (.int q2), some (.int p3), some (.int q4)] [] N := by
  intro fu
  induction fu with
  | zero => intro _ _ _; exact im_none
  | succ fu ih =>
    intro q2 q4 N
    show im_I mi_R_analyse 5 114 G M0 sw_v (lb_R_analyse_55 k0 p0 p1 p3 (lf_R_analyse_55 k0 p0 p1 p3 fu) q2 q4 N) 55 [some (.ref p0), some (.ref p1), some (.int q2), some (.int p3), some (.int q4)] [] N
    unfold lb_R_analyse_55
    refine im_iload 31 55 rfl rfl ?_
    refine im_bipush 32 57 rfl rfl ?_
    refine im_ic_ge 33 59 89 rfl (by decide) ?_ ?_
    · exact im_less _ (by simp [lv_le]) (hk0 q2 N)
    · refine im_aload_n 34 62 rfl rfl ?_
      refine im_iload 35 63 rfl rfl ?_
      refine im_ci (S := []) (fun _ hv => cpV (fr' := 1) (lo' := 20) (i := 36) (As := [.int q4]) (S := []) (a := p1) (c := 7) rfl lk_R_44 mw_P_hasPoint mv_P_hasPoint rfl ⟨by decide, rfl⟩ rfl rfl rfl (gd_some hv).1 (sp_P_hasPoint G hv)) (fun x5 => ?_)
      refine im_jp (fun j83 => ∀ (x6 : Int32) (M5 : mm_T), im_I mi_R_analyse 5 114 G M0 sw_v (j83 x6 M5) 83 [some (.ref p0), some (.ref p1), some (.int x6), some (.int p3), some (.int q4)] [] M5) ?_ (fun j83 hj83 => ?_)
      · intro x6 M5
        show im_I mi_R_analyse 5 114 G M0 sw_v (_) 83 [some (.ref p0), some (.ref p1), some (.int x6), some (.int p3), some (.int q4)] [] M5
        refine im_iincL 45 83 (fun x7 => [some (.ref p0), some (.ref p1), some (.int x6), some (.int p3), some (.int x7)]) rfl rfl rfl rfl (fun _ => rfl) (fun x7 => ?_)
        refine im_goto 46 86 55 rfl (by decide) ?_
        exact im_less _ (by simp [lv_le]) (ih x6 x7 M5)
      refine im_if_eq 37 68 83 rfl (by decide) ?_ ?_
      · exact im_less _ (by simp [lv_le]) (hj83 q2 N)
      · refine im_aload_n 38 71 rfl rfl ?_
        refine im_aload_n 39 72 rfl rfl ?_
        refine im_iload 40 73 rfl rfl ?_
        refine im_cWi (S := []) (fun _ _ hv => cpV (fr' := 4) (lo' := 86) (i := 41) (As := [.ref p1, .int q4]) (S := []) (a := p0) (c := 8) rfl lk_R_48 mw_R_flow mv_R_flow rfl ⟨by decide, rfl⟩ rfl rfl rfl (gd_some hv).1 (sp_R_flow G hv)) (fun x8 M6 => ?_)
        refine im_if_eq 42 78 83 rfl (by decide) ?_ ?_
        · exact im_less _ (by simp [lv_le]) (hj83 q2 M6)
        · refine im_iconst 43 81 rfl rfl ?_
          refine im_istore_n 44 82 [some (.ref p0), some (.ref p1), some (.int (1 : Int32)), some (.int p3), some (.int q4)] rfl rfl rfl ?_
          exact im_less _ (by simp [lv_le]) (hj83 (1 : Int32) M6)

set_option maxRecDepth 100000 in
set_option maxHeartbeats 4000000 in
theorem li_R_analyse_40 (G : gl_T) (M0 : mm_T) (k0 : mm_T → Option (mm_T)) (p0 : Nat) (p1 : Nat) (hk0 : ∀ (N : mm_T), im_I mi_R_analyse 5 114 G M0 sw_v (k0 N) 95 [some (.ref p0), none, none, none, none] [] N) : ∀ (fu : Nat) (q2 : Int32) (q3 : Int32) (N : mm_T), im_I mi_R_analyse 5 114 G M0 sw_v (lf_R_analyse_40 k0 p0 p1 fu q2 q3 N) 40 [some (.ref p0), some (.ref p1), some (.int q2), some (.int q3), none] [] N := by
  intro fu
  induction fu with
  | zero => intro _ _ _; exact im_none
  | succ fu ih =>
    intro q2 q3 N
    show im_I mi_R_analyse 5 114 G M0 sw_v (lb_R_analyse_40 k0 p0 p1 (lf_R_analyse_40 k0 p0 p1 fu) q2 q3 N) 40 [some (.ref p0), some (.ref p1), some (.int q2), some (.int q3), none] [] N
    unfold lb_R_analyse_40
    refine im_iload_n 22 40 rfl rfl ?_
    refine im_if_eq 23 41 95 rfl (by decide) ?_ ?_
    · exact im_less _ (by simp [lv_le]) (hk0 N)
    · refine im_iload_n 24 44 rfl rfl ?_
      refine im_ldcI 25 45 (v := (100000 : Int32)) rfl (tb_m 1014 (by decide +kernel) rfl) ?_
      refine im_ic_ge 26 47 95 rfl (by decide) ?_ ?_
      · exact im_less _ (by simp [lv_le]) (hk0 N)
      · refine im_iconst 27 50 rfl rfl ?_
        refine im_istore_n 28 51 [some (.ref p0), some (.ref p1), some (.int (0 : Int32)), some (.int q3), none] rfl rfl rfl ?_
        refine im_iconst 29 52 rfl rfl ?_
        refine im_istore 30 53 [some (.ref p0), some (.ref p1), some (.int (0 : Int32)), some (.int q3), some (.int (0 : Int32))] rfl rfl rfl ?_
        refine im_less [some (.ref p0), some (.ref p1), some (.int (0 : Int32)), some (.int q3), some (.int (0 : Int32))] (by simp [lv_le]) ?_
        refine li_R_analyse_55 G M0 _ p0 p1 q3 ?_ fu_L (0 : Int32) (0 : Int32) N
        · intro x9 M7
          show im_I mi_R_analyse 5 114 G M0 sw_v (_) 89 [some (.ref p0), some (.ref p1), some (.int x9), some (.int q3), none] [] M7
          refine im_iincL 47 89 (fun x10 => [some (.ref p0), some (.ref p1), some (.int x9), some (.int x10), none]) rfl rfl rfl rfl (fun _ => rfl) (fun x10 => ?_)
          refine im_goto 48 92 40 rfl (by decide) ?_
          exact im_less _ (by simp [lv_le]) (ih x9 x10 M7)

set_option maxRecDepth 100000 in
set_option maxHeartbeats 4000000 in
theorem ip_R_analyse (G : gl_T) (t : Nat) (a1 : Nat) (M : mm_T) : im_I mi_R_analyse 5 114 G M sw_v (ff_R_analyse t a1 M) 0 [some (.ref t), some (.ref a1), none, none, none] [] M := by
  unfold ff_R_analyse
  refine im_gd (fun hg => ?_)
  refine im_aload_n 0 0 rfl rfl ?_
  refine im_getR 1 1 rfl fd_R_9 (by decide +kernel) (fun x1 => ?_)
  refine im_lconst 2 4 rfl rfl ?_
  refine im_cWv (S := []) (fun _ hv => cpS (fr' := 1) (lo' := 20) (i := 3) (As := [.ref x1, .long (0 : Int64)]) (S := []) rfl lk_R_22 mw_D_fill_b mv_D_fill_b rfl rfl rfl rfl (sp_D_fill_b G hv)) (fun M1 => ?_)
  refine im_aload_n 4 8 rfl rfl ?_
  refine im_getR 5 9 rfl fd_R_15 (by decide +kernel) (fun x2 => ?_)
  refine im_iconst 6 12 rfl rfl ?_
  refine im_cWv (S := []) (fun _ hv => cpS (fr' := 1) (lo' := 20) (i := 7) (As := [.ref x2, .int (0 : Int32)]) (S := []) rfl lk_R_26 mw_D_fill_a mv_D_fill_a rfl rfl rfl rfl (sp_D_fill_a G hv)) (fun M2 => ?_)
  refine im_aload_n 8 16 rfl rfl ?_
  refine im_aload_n 9 17 rfl rfl ?_
  refine im_cWv (S := []) (fun _ hv => cpV (fr' := 4) (lo' := 84) (i := 10) (As := [.ref a1]) (S := []) (a := t) (c := 8) rfl lk_R_29 mw_R_collectDefinitions mv_R_collectDefinitions rfl ⟨by decide, rfl⟩ rfl rfl rfl (gd_some hv).1 (sp_R_collectDefinitions G hv)) (fun M3 => ?_)
  refine im_aload_n 11 21 rfl rfl ?_
  refine im_getR 12 22 rfl fd_R_15 (by decide +kernel) (fun x3 => ?_)
  refine im_aload_n 13 25 rfl rfl ?_
  refine im_iconst 14 26 rfl rfl ?_
  refine im_ci (S := [.ref x3]) (fun _ hv => cpV (fr' := 2) (lo' := 41) (i := 15) (As := [.int (0 : Int32)]) (S := [.ref x3]) (a := a1) (c := 7) rfl lk_R_33 mw_P_firstPoint mv_P_firstPoint rfl ⟨by decide, rfl⟩ rfl rfl rfl (gd_some hv).1 (sp_P_firstPoint G hv)) (fun x4 => ?_)
  refine im_sipush 16 30 rfl rfl ?_
  refine im_cWv (S := []) (fun _ hv => cpS (fr' := 1) (lo' := 20) (i := 17) (As := [.ref x3, .int x4, .int (255 : Int32)]) (S := []) rfl lk_R_39 mw_D_put_a mv_D_put_a rfl rfl rfl rfl (sp_D_put_a G hv)) (fun M4 => ?_)
  refine im_iconst 18 36 rfl rfl ?_
  refine im_istore_n 19 37 [some (.ref t), some (.ref a1), some (.int (1 : Int32)), none, none] rfl rfl rfl ?_
  refine im_iconst 20 38 rfl rfl ?_
  refine im_istore_n 21 39 [some (.ref t), some (.ref a1), some (.int (1 : Int32)), some (.int (0 : Int32)), none] rfl rfl rfl ?_
  refine im_less [some (.ref t), some (.ref a1), some (.int (1 : Int32)), some (.int (0 : Int32)), none] (by simp [lv_le]) ?_
  refine li_R_analyse_40 G M _ t a1 ?_ fu_L (1 : Int32) (0 : Int32) M4
  · intro M8
    show im_I mi_R_analyse 5 114 G M sw_v (_) 95 [some (.ref t), none, none, none, none] [] M8
    refine im_aload_n 49 95 rfl rfl ?_
    refine im_iconst 50 96 rfl rfl ?_
    refine im_putZ 51 97 rfl fd_R_52 (Or.inl (by decide +kernel)) (by decide +kernel) (fun M9 => ?_)
    exact im_end rfl (wp_return 52 100 rfl rfl)

theorem sp_R_analyse (G : gl_T) {t : Nat} {a1 : Nat} {M : mm_T} {y : mm_T} (h : ff_R_analyse t a1 M = some y) : sp_S mi_R_analyse 5 114 G [.ref t, .ref a1] M (sw_v y).1 (sw_v y).2 := sp_of mo_R_analyse mw_R_analyse (Or.inl (by decide +kernel)) rfl rfl (Or.inl rfl) (ip_R_analyse G t a1 M y h)

set_option maxRecDepth 100000 in
set_option maxHeartbeats 4000000 in
theorem ip_D_reaching (G : gl_T) (t : Nat) (M : mm_T) : im_I mi_D_reaching 6 138 G M sw_r (ff_D_reaching t M) 0 [some (.ref t)] [] M := by
  unfold ff_D_reaching
  refine im_gd (fun hg => ?_)
  refine im_aload_n 0 0 rfl rfl ?_
  refine im_getR 1 1 rfl fd_D_51 (by decide +kernel) (fun x1 => ?_)
  refine im_getI 2 4 rfl fd_D_474 (by decide +kernel) (fun x2 => ?_)
  refine im_jp (fun j21 => ∀  (M1 : mm_T), im_I mi_D_reaching 6 138 G M sw_r (j21 M1) 21 [some (.ref t)] [] M1) ?_ (fun j21 hj21 => ?_)
  · intro M1
    show im_I mi_D_reaching 6 138 G M sw_r (_) 21 [some (.ref t)] [] M1
    refine im_aload_n 9 21 rfl rfl ?_
    refine im_getR 10 22 rfl fd_D_51 (by decide +kernel) (fun x3 => ?_)
    exact im_end rfl (wp_areturn 11 25 rfl (Or.inl ⟨_, rfl⟩) rfl)
  refine im_if_ne 3 7 21 rfl (by decide) ?_ ?_
  · exact im_less _ (by simp [lv_le]) (hj21 M)
  · refine im_aload_n 4 10 rfl rfl ?_
    refine im_getR 5 11 rfl fd_D_51 (by decide +kernel) (fun x4 => ?_)
    refine im_aload_n 6 14 rfl rfl ?_
    refine im_getR 7 15 rfl fd_D_87 (by decide +kernel) (fun x5 => ?_)
    refine im_cWv (S := []) (fun _ hv => cpV (fr' := 5) (lo' := 114) (i := 8) (As := [.ref x5]) (S := []) (a := x4) (c := 8) rfl lk_D_481 mw_R_analyse mv_R_analyse rfl ⟨by decide, rfl⟩ rfl rfl rfl (gd_some hv).1 (sp_R_analyse G hv)) (fun M2 => ?_)
    exact im_less _ (by simp [lv_le]) (hj21 M2)

theorem sp_D_reaching (G : gl_T) {t : Nat} {M : mm_T} {y : Nat × mm_T} (h : ff_D_reaching t M = some y) : sp_S mi_D_reaching 6 138 G [.ref t] M (sw_r y).1 (sw_r y).2 := sp_of mo_D_reaching mw_D_reaching (Or.inl (by decide +kernel)) rfl rfl (Or.inl rfl) (ip_D_reaching G t M y h)

set_option maxRecDepth 100000 in
set_option maxHeartbeats 4000000 in
theorem ip_R_definitionsAt_a (G : gl_T) (t : Nat) (a1 : Int32) (M : mm_T) : im_I mi_R_definitionsAt_a 2 41 G M (sh_j M) (ff_R_definitionsAt_a t a1 M) 0 [some (.ref t), some (.int a1)] [] M := by
  unfold ff_R_definitionsAt_a
  refine im_gd (fun hg => ?_)
  refine im_aload_n 0 0 rfl rfl ?_
  refine im_getR 1 1 rfl fd_R_9 (by decide +kernel) (fun x1 => ?_)
  refine im_iload_n 2 4 rfl rfl ?_
  refine im_cj (S := []) (fun _ hv => cpS (fr' := 1) (lo' := 20) (i := 3) (As := [.ref x1, .int a1]) (S := []) rfl lk_R_56 mw_D_at_b mv_D_at_b rfl rfl rfl rfl (sp_D_at_b G hv)) (fun x2 => ?_)
  exact im_end rfl (wp_lreturn 4 8 rfl rfl)

theorem sp_R_definitionsAt_a (G : gl_T) {t : Nat} {a1 : Int32} {M : mm_T} {y : Int64} (h : ff_R_definitionsAt_a t a1 M = some y) : sp_S mi_R_definitionsAt_a 2 41 G [.ref t, .int a1] M ((sh_j M) y).1 ((sh_j M) y).2 := sp_of mo_R_definitionsAt_a mw_R_definitionsAt_a (Or.inl (by decide +kernel)) rfl rfl (Or.inl rfl) (ip_R_definitionsAt_a G t a1 M y h)

set_option maxRecDepth 100000 in
set_option maxHeartbeats 4000000 in
theorem ip_D_reaches (G : gl_T) (t : Nat) (a1 : Int32) (a2 : Int32) (M : mm_T) : im_I mi_D_reaches 7 158 G M sX_i (ff_D_reaches t a1 a2 M) 0 [some (.ref t), some (.int a1), some (.int a2)] [] M := by
  unfold ff_D_reaches
  refine im_gd (fun hg => ?_)
  refine im_aload_n 0 0 rfl rfl ?_
  refine im_iload_n 1 1 rfl rfl ?_
  refine im_rq (S := []) (fun hv => cpV (fr' := 6) (lo' := 90) (i := 2) (As := [.int a1]) (S := []) (a := t) (c := 10) rfl lk_D_144 mw_D_requireInstruction mv_D_requireInstruction rfl ⟨by decide, rfl⟩ rfl rfl rfl (gd_some hv).1 (sp_D_requireInstruction G hv)) (fun _ hv => xpV (fr' := 6) (lo' := 90) (i := 2) (As := [.int a1]) (S := []) (a := t) (c := 10) rfl lm_D_144 mw_D_requireInstruction mv_D_requireInstruction rfl ⟨by decide, rfl⟩ rfl rfl rfl (gd_some hv).1 (sp_D_requireInstruction G hv) (tw_out rfl)) (fun _ => rfl) ?_
  refine im_aload_n 3 5 rfl rfl ?_
  refine im_iload_n 4 6 rfl rfl ?_
  refine im_rq (S := []) (fun hv => cpV (fr' := 6) (lo' := 90) (i := 5) (As := [.int a2]) (S := []) (a := t) (c := 10) rfl lk_D_137 mw_D_requireBlock mv_D_requireBlock rfl ⟨by decide, rfl⟩ rfl rfl rfl (gd_some hv).1 (sp_D_requireBlock G hv)) (fun _ hv => xpV (fr' := 6) (lo' := 90) (i := 5) (As := [.int a2]) (S := []) (a := t) (c := 10) rfl lm_D_137 mw_D_requireBlock mv_D_requireBlock rfl ⟨by decide, rfl⟩ rfl rfl rfl (gd_some hv).1 (sp_D_requireBlock G hv) (tw_out rfl)) (fun _ => rfl) ?_
  refine im_aload_n 6 10 rfl rfl ?_
  refine im_cWr (S := []) (fun _ _ hv => cpV (fr' := 6) (lo' := 138) (i := 7) (As := []) (S := []) (a := t) (c := 10) rfl lk_D_184 mw_D_reaching mv_D_reaching rfl ⟨by decide, rfl⟩ rfl rfl rfl (gd_some hv).1 (sp_D_reaching G hv)) (fun x1 M1 => ?_)
  refine im_aload_n 8 14 rfl rfl ?_
  refine im_getR 9 15 rfl fd_D_87 (by decide +kernel) (fun x2 => ?_)
  refine im_iload_n 10 18 rfl rfl ?_
  refine im_ci (S := [.ref x1]) (fun _ hv => cpV (fr' := 2) (lo' := 41) (i := 11) (As := [.int a2]) (S := [.ref x1]) (a := x2) (c := 7) rfl lk_D_188 mw_P_firstPoint mv_P_firstPoint rfl ⟨by decide, rfl⟩ rfl rfl rfl (gd_some hv).1 (sp_P_firstPoint G hv)) (fun x3 => ?_)
  refine im_cj (S := []) (fun _ hv => cpV (fr' := 2) (lo' := 41) (i := 12) (As := [.int x3]) (S := []) (a := x1) (c := 8) rfl lk_D_191 mw_R_definitionsAt_a mv_R_definitionsAt_a rfl ⟨by decide, rfl⟩ rfl rfl rfl (gd_some hv).1 (sp_R_definitionsAt_a G hv)) (fun x4 => ?_)
  refine im_iload_n 13 25 rfl rfl ?_
  refine im_ci (S := []) (fun _ hv => cpS (fr' := 1) (lo' := 20) (i := 14) (As := [.long x4, .int a1]) (S := []) rfl lk_D_195 mw_D_hasBit mv_D_hasBit rfl rfl rfl rfl (sp_D_hasBit G hv)) (fun x5 => ?_)
  exact im_endZ (fun _ => rfl) (fun hn => wp_zreturn 15 29 (ty := .boolean) rfl hn rfl)

theorem sp_D_reaches (G : gl_T) {t : Nat} {a1 : Int32} {a2 : Int32} {M : mm_T} {y : (Int32 ⊕ String) × mm_T} (h : ff_D_reaches t a1 a2 M = some y) : sp_S mi_D_reaches 7 158 G [.ref t, .int a1, .int a2] M (sX_i y).1 (sX_i y).2 := sp_of mo_D_reaches mw_D_reaches (Or.inl (by decide +kernel)) rfl rfl (Or.inl rfl) (ip_D_reaches G t a1 a2 M y h)

set_option maxRecDepth 100000 in
set_option maxHeartbeats 4000000 in
theorem ip_D_requireVariable (G : gl_T) (a1 : Int32) (M : mm_T) : im_I mi_D_requireVariable 6 90 G M (sx_v M) (ff_D_requireVariable a1 M) 0 [some (.int a1)] [] M := by
  unfold ff_D_requireVariable
  refine im_iload_n 0 0 rfl rfl ?_
  refine im_jp (fun j10 => im_I mi_D_requireVariable 6 90 G M (sx_v M) (j10) 10 [none] [] M) ?_ (fun j10 hj10 => ?_)
  · show im_I mi_D_requireVariable 6 90 G M (sx_v M) (_) 10 [none] [] M
    exact im_endX rfl (wp_throwW (i := 5) th_D_105_451_109 rfl rfl rfl rfl rfl rfl rfl rfl rfl rfl)
  refine im_if_lt 1 1 10 rfl (by decide) ?_ ?_
  · exact im_less _ (by simp [lv_le]) (hj10)
  · refine im_iload_n 2 4 rfl rfl ?_
    refine im_bipush 3 5 rfl rfl ?_
    refine im_ic_lt 4 7 21 rfl (by decide) ?_ ?_
    · exact im_end rfl (wp_return 10 21 rfl rfl)
    · exact im_less _ (by simp [lv_le]) (hj10)

theorem sp_D_requireVariable (G : gl_T) {a1 : Int32} {M : mm_T} {y : Option String} (h : ff_D_requireVariable a1 M = some y) : sp_S mi_D_requireVariable 6 90 G [.int a1] M ((sx_v M) y).1 ((sx_v M) y).2 := sp_of mo_D_requireVariable mw_D_requireVariable (Or.inl (by decide +kernel)) rfl rfl (Or.inl rfl) (ip_D_requireVariable G a1 M y h)

set_option maxRecDepth 100000 in
set_option maxHeartbeats 4000000 in
theorem ip_R_definitionsAt_b (G : gl_T) (t : Nat) (a1 : Int32) (a2 : Int32) (M : mm_T) : im_I mi_R_definitionsAt_b 2 41 G M (sh_j M) (ff_R_definitionsAt_b t a1 a2 M) 0 [some (.ref t), some (.int a1), some (.int a2)] [] M := by
  unfold ff_R_definitionsAt_b
  refine im_gd (fun hg => ?_)
  refine im_aload_n 0 0 rfl rfl ?_
  refine im_getR 1 1 rfl fd_R_9 (by decide +kernel) (fun x1 => ?_)
  refine im_iload_n 2 4 rfl rfl ?_
  refine im_cj (S := []) (fun _ hv => cpS (fr' := 1) (lo' := 20) (i := 3) (As := [.ref x1, .int a1]) (S := []) rfl lk_R_56 mw_D_at_b mv_D_at_b rfl rfl rfl rfl (sp_D_at_b G hv)) (fun x2 => ?_)
  refine im_aload_n 4 8 rfl rfl ?_
  refine im_getR 5 9 rfl fd_R_19 (by decide +kernel) (fun x3 => ?_)
  refine im_iload_n 6 12 rfl rfl ?_
  refine im_cj (S := [.long x2]) (fun _ hv => cpS (fr' := 1) (lo' := 20) (i := 7) (As := [.ref x3, .int a2]) (S := [.long x2]) rfl lk_R_56 mw_D_at_b mv_D_at_b rfl rfl rfl rfl (sp_D_at_b G hv)) (fun x4 => ?_)
  refine im_land 8 16 rfl ?_
  exact im_end rfl (wp_lreturn 9 17 rfl rfl)

theorem sp_R_definitionsAt_b (G : gl_T) {t : Nat} {a1 : Int32} {a2 : Int32} {M : mm_T} {y : Int64} (h : ff_R_definitionsAt_b t a1 a2 M = some y) : sp_S mi_R_definitionsAt_b 2 41 G [.ref t, .int a1, .int a2] M ((sh_j M) y).1 ((sh_j M) y).2 := sp_of mo_R_definitionsAt_b mw_R_definitionsAt_b (Or.inl (by decide +kernel)) rfl rfl (Or.inl rfl) (ip_R_definitionsAt_b G t a1 a2 M y h)

set_option maxRecDepth 100000 in
set_option maxHeartbeats 4000000 in
theorem ip_JL_bitCount (G : gl_T) (a1 : Int64) (M : mm_T) : im_I mi_JL_bitCount 1 20 G M (sh_i M) (ff_JL_bitCount a1 M) 0 [some (.long a1), none] [] M := by
  unfold ff_JL_bitCount
  refine im_lload_n 0 0 rfl rfl ?_
  refine im_lload_n 1 1 rfl rfl ?_
  refine im_iconst 2 2 rfl rfl ?_
  refine im_lushr 3 3 rfl ?_
  refine im_ldc2 4 4 (v := (6148914691236517205 : Int64)) rfl (tb_m 1391 (by decide +kernel) rfl) ?_
  refine im_land 5 7 rfl ?_
  refine im_lsub 6 8 rfl ?_
  refine im_letJ (fun x1 => ?_)
  refine im_lstore_n 7 9 [some (.long x1), none] rfl rfl rfl ?_
  refine im_lload_n 8 10 rfl rfl ?_
  refine im_ldc2 9 11 (v := (3689348814741910323 : Int64)) rfl (tb_m 1392 (by decide +kernel) rfl) ?_
  refine im_land 10 14 rfl ?_
  refine im_lload_n 11 15 rfl rfl ?_
  refine im_iconst 12 16 rfl rfl ?_
  refine im_lushr 13 17 rfl ?_
  refine im_ldc2 14 18 (v := (3689348814741910323 : Int64)) rfl (tb_m 1392 (by decide +kernel) rfl) ?_
  refine im_land 15 21 rfl ?_
  refine im_ladd 16 22 rfl ?_
  refine im_letJ (fun x2 => ?_)
  refine im_lstore_n 17 23 [some (.long x2), none] rfl rfl rfl ?_
  refine im_lload_n 18 24 rfl rfl ?_
  refine im_lload_n 19 25 rfl rfl ?_
  refine im_iconst 20 26 rfl rfl ?_
  refine im_lushr 21 27 rfl ?_
  refine im_ladd 22 28 rfl ?_
  refine im_ldc2 23 29 (v := (1085102592571150095 : Int64)) rfl (tb_m 1393 (by decide +kernel) rfl) ?_
  refine im_land 24 32 rfl ?_
  refine im_letJ (fun x3 => ?_)
  refine im_lstore_n 25 33 [some (.long x3), none] rfl rfl rfl ?_
  refine im_lload_n 26 34 rfl rfl ?_
  refine im_lload_n 27 35 rfl rfl ?_
  refine im_bipush 28 36 rfl rfl ?_
  refine im_lushr 29 38 rfl ?_
  refine im_ladd 30 39 rfl ?_
  refine im_letJ (fun x4 => ?_)
  refine im_lstore_n 31 40 [some (.long x4), none] rfl rfl rfl ?_
  refine im_lload_n 32 41 rfl rfl ?_
  refine im_lload_n 33 42 rfl rfl ?_
  refine im_bipush 34 43 rfl rfl ?_
  refine im_lushr 35 45 rfl ?_
  refine im_ladd 36 46 rfl ?_
  refine im_letJ (fun x5 => ?_)
  refine im_lstore_n 37 47 [some (.long x5), none] rfl rfl rfl ?_
  refine im_lload_n 38 48 rfl rfl ?_
  refine im_lload_n 39 49 rfl rfl ?_
  refine im_bipush 40 50 rfl rfl ?_
  refine im_lushr 41 52 rfl ?_
  refine im_ladd 42 53 rfl ?_
  refine im_letJ (fun x6 => ?_)
  refine im_lstore_n 43 54 [some (.long x6), none] rfl rfl rfl ?_
  refine im_lload_n 44 55 rfl rfl ?_
  refine im_l2i 45 56 rfl ?_
  refine im_bipush 46 57 rfl rfl ?_
  refine im_iand 47 59 rfl ?_
  exact im_end rfl (wp_ireturn 48 60 rfl rfl)

theorem sp_JL_bitCount (G : gl_T) {a1 : Int64} {M : mm_T} {y : Int32} (h : ff_JL_bitCount a1 M = some y) : sp_S mi_JL_bitCount 1 20 G [.long a1] M ((sh_i M) y).1 ((sh_i M) y).2 := sp_of mo_JL_bitCount mw_JL_bitCount (Or.inl (by decide +kernel)) rfl rfl (Or.inl rfl) (ip_JL_bitCount G a1 M y h)

set_option maxRecDepth 100000 in
set_option maxHeartbeats 4000000 in
theorem ip_D_reachingDefinitions (G : gl_T) (t : Nat) (a1 : Int32) (a2 : Int32) (M : mm_T) : im_I mi_D_reachingDefinitions 7 158 G M sX_i (ff_D_reachingDefinitions t a1 a2 M) 0 [some (.ref t), some (.int a1), some (.int a2)] [] M := by
  unfold ff_D_reachingDefinitions
  refine im_gd (fun hg => ?_)
  refine im_aload_n 0 0 rfl rfl ?_
  refine im_iload_n 1 1 rfl rfl ?_
  refine im_rq (S := []) (fun hv => cpV (fr' := 6) (lo' := 90) (i := 2) (As := [.int a1]) (S := []) (a := t) (c := 10) rfl lk_D_137 mw_D_requireBlock mv_D_requireBlock rfl ⟨by decide, rfl⟩ rfl rfl rfl (gd_some hv).1 (sp_D_requireBlock G hv)) (fun _ hv => xpV (fr' := 6) (lo' := 90) (i := 2) (As := [.int a1]) (S := []) (a := t) (c := 10) rfl lm_D_137 mw_D_requireBlock mv_D_requireBlock rfl ⟨by decide, rfl⟩ rfl rfl rfl (gd_some hv).1 (sp_D_requireBlock G hv) (tw_out rfl)) (fun _ => rfl) ?_
  refine im_iload_n 3 5 rfl rfl ?_
  refine im_rq (S := []) (fun hv => cpS (fr' := 6) (lo' := 90) (i := 4) (As := [.int a2]) (S := []) rfl lk_D_199 mw_D_requireVariable mv_D_requireVariable rfl rfl rfl rfl (sp_D_requireVariable G hv)) (fun _ hv => xpS (fr' := 6) (lo' := 90) (i := 4) (As := [.int a2]) (S := []) rfl lm_D_199 mw_D_requireVariable mv_D_requireVariable rfl rfl rfl rfl (sp_D_requireVariable G hv) (tw_out rfl)) (fun _ => rfl) ?_
  refine im_aload_n 5 9 rfl rfl ?_
  refine im_cWr (S := []) (fun _ _ hv => cpV (fr' := 6) (lo' := 138) (i := 6) (As := []) (S := []) (a := t) (c := 10) rfl lk_D_184 mw_D_reaching mv_D_reaching rfl ⟨by decide, rfl⟩ rfl rfl rfl (gd_some hv).1 (sp_D_reaching G hv)) (fun x1 M1 => ?_)
  refine im_aload_n 7 13 rfl rfl ?_
  refine im_getR 8 14 rfl fd_D_87 (by decide +kernel) (fun x2 => ?_)
  refine im_iload_n 9 17 rfl rfl ?_
  refine im_ci (S := [.ref x1]) (fun _ hv => cpV (fr' := 2) (lo' := 41) (i := 10) (As := [.int a1]) (S := [.ref x1]) (a := x2) (c := 7) rfl lk_D_188 mw_P_firstPoint mv_P_firstPoint rfl ⟨by decide, rfl⟩ rfl rfl rfl (gd_some hv).1 (sp_P_firstPoint G hv)) (fun x3 => ?_)
  refine im_iload_n 11 21 rfl rfl ?_
  refine im_cj (S := []) (fun _ hv => cpV (fr' := 2) (lo' := 41) (i := 12) (As := [.int x3, .int a2]) (S := []) (a := x1) (c := 8) rfl lk_D_202 mw_R_definitionsAt_b mv_R_definitionsAt_b rfl ⟨by decide, rfl⟩ rfl rfl rfl (gd_some hv).1 (sp_R_definitionsAt_b G hv)) (fun x4 => ?_)
  refine im_ci (S := []) (fun _ hv => cpS (fr' := 1) (lo' := 20) (i := 13) (As := [.long x4]) (S := []) rfl lk_D_205 mw_JL_bitCount mv_JL_bitCount rfl rfl rfl rfl (sp_JL_bitCount G hv)) (fun x5 => ?_)
  exact im_end rfl (wp_ireturn 14 28 rfl rfl)

theorem sp_D_reachingDefinitions (G : gl_T) {t : Nat} {a1 : Int32} {a2 : Int32} {M : mm_T} {y : (Int32 ⊕ String) × mm_T} (h : ff_D_reachingDefinitions t a1 a2 M = some y) : sp_S mi_D_reachingDefinitions 7 158 G [.ref t, .int a1, .int a2] M (sX_i y).1 (sX_i y).2 := sp_of mo_D_reachingDefinitions mw_D_reachingDefinitions (Or.inl (by decide +kernel)) rfl rfl (Or.inl rfl) (ip_D_reachingDefinitions G t a1 a2 M y h)

set_option maxRecDepth 100000 in
set_option maxHeartbeats 4000000 in
theorem ip_R_initialsAt (G : gl_T) (t : Nat) (a1 : Int32) (M : mm_T) : im_I mi_R_initialsAt 2 41 G M (sh_i M) (ff_R_initialsAt t a1 M) 0 [some (.ref t), some (.int a1)] [] M := by
  unfold ff_R_initialsAt
  refine im_gd (fun hg => ?_)
  refine im_aload_n 0 0 rfl rfl ?_
  refine im_getR 1 1 rfl fd_R_15 (by decide +kernel) (fun x1 => ?_)
  refine im_iload_n 2 4 rfl rfl ?_
  refine im_ci (S := []) (fun _ hv => cpS (fr' := 1) (lo' := 20) (i := 3) (As := [.ref x1, .int a1]) (S := []) rfl lk_R_60 mw_D_at_a mv_D_at_a rfl rfl rfl rfl (sp_D_at_a G hv)) (fun x2 => ?_)
  exact im_end rfl (wp_ireturn 4 8 rfl rfl)

theorem sp_R_initialsAt (G : gl_T) {t : Nat} {a1 : Int32} {M : mm_T} {y : Int32} (h : ff_R_initialsAt t a1 M = some y) : sp_S mi_R_initialsAt 2 41 G [.ref t, .int a1] M ((sh_i M) y).1 ((sh_i M) y).2 := sp_of mo_R_initialsAt mw_R_initialsAt (Or.inl (by decide +kernel)) rfl rfl (Or.inl rfl) (ip_R_initialsAt G t a1 M y h)

set_option maxRecDepth 100000 in
set_option maxHeartbeats 4000000 in
theorem ip_D_isInitialReaching (G : gl_T) (t : Nat) (a1 : Int32) (a2 : Int32) (M : mm_T) : im_I mi_D_isInitialReaching 7 158 G M sX_i (ff_D_isInitialReaching t a1 a2 M) 0 [some (.ref t), some (.int a1), some (.int a2)] [] M := by
  unfold ff_D_isInitialReaching
  refine im_gd (fun hg => ?_)
  refine im_aload_n 0 0 rfl rfl ?_
  refine im_iload_n 1 1 rfl rfl ?_
  refine im_rq (S := []) (fun hv => cpV (fr' := 6) (lo' := 90) (i := 2) (As := [.int a1]) (S := []) (a := t) (c := 10) rfl lk_D_137 mw_D_requireBlock mv_D_requireBlock rfl ⟨by decide, rfl⟩ rfl rfl rfl (gd_some hv).1 (sp_D_requireBlock G hv)) (fun _ hv => xpV (fr' := 6) (lo' := 90) (i := 2) (As := [.int a1]) (S := []) (a := t) (c := 10) rfl lm_D_137 mw_D_requireBlock mv_D_requireBlock rfl ⟨by decide, rfl⟩ rfl rfl rfl (gd_some hv).1 (sp_D_requireBlock G hv) (tw_out rfl)) (fun _ => rfl) ?_
  refine im_iload_n 3 5 rfl rfl ?_
  refine im_rq (S := []) (fun hv => cpS (fr' := 6) (lo' := 90) (i := 4) (As := [.int a2]) (S := []) rfl lk_D_199 mw_D_requireVariable mv_D_requireVariable rfl rfl rfl rfl (sp_D_requireVariable G hv)) (fun _ hv => xpS (fr' := 6) (lo' := 90) (i := 4) (As := [.int a2]) (S := []) rfl lm_D_199 mw_D_requireVariable mv_D_requireVariable rfl rfl rfl rfl (sp_D_requireVariable G hv) (tw_out rfl)) (fun _ => rfl) ?_
  refine im_aload_n 5 9 rfl rfl ?_
  refine im_cWr (S := []) (fun _ _ hv => cpV (fr' := 6) (lo' := 138) (i := 6) (As := []) (S := []) (a := t) (c := 10) rfl lk_D_184 mw_D_reaching mv_D_reaching rfl ⟨by decide, rfl⟩ rfl rfl rfl (gd_some hv).1 (sp_D_reaching G hv)) (fun x1 M1 => ?_)
  refine im_aload_n 7 13 rfl rfl ?_
  refine im_getR 8 14 rfl fd_D_87 (by decide +kernel) (fun x2 => ?_)
  refine im_iload_n 9 17 rfl rfl ?_
  refine im_ci (S := [.ref x1]) (fun _ hv => cpV (fr' := 2) (lo' := 41) (i := 10) (As := [.int a1]) (S := [.ref x1]) (a := x2) (c := 7) rfl lk_D_188 mw_P_firstPoint mv_P_firstPoint rfl ⟨by decide, rfl⟩ rfl rfl rfl (gd_some hv).1 (sp_P_firstPoint G hv)) (fun x3 => ?_)
  refine im_ci (S := []) (fun _ hv => cpV (fr' := 2) (lo' := 41) (i := 11) (As := [.int x3]) (S := []) (a := x1) (c := 8) rfl lk_D_210 mw_R_initialsAt mv_R_initialsAt rfl ⟨by decide, rfl⟩ rfl rfl rfl (gd_some hv).1 (sp_R_initialsAt G hv)) (fun x4 => ?_)
  refine im_i2l 12 24 rfl ?_
  refine im_iload_n 13 25 rfl rfl ?_
  refine im_ci (S := []) (fun _ hv => cpS (fr' := 1) (lo' := 20) (i := 14) (As := [.long ((x4).toInt64), .int a2]) (S := []) rfl lk_D_195 mw_D_hasBit mv_D_hasBit rfl rfl rfl rfl (sp_D_hasBit G hv)) (fun x5 => ?_)
  exact im_endZ (fun _ => rfl) (fun hn => wp_zreturn 15 29 (ty := .boolean) rfl hn rfl)

theorem sp_D_isInitialReaching (G : gl_T) {t : Nat} {a1 : Int32} {a2 : Int32} {M : mm_T} {y : (Int32 ⊕ String) × mm_T} (h : ff_D_isInitialReaching t a1 a2 M = some y) : sp_S mi_D_isInitialReaching 7 158 G [.ref t, .int a1, .int a2] M (sX_i y).1 (sX_i y).2 := sp_of mo_D_isInitialReaching mw_D_isInitialReaching (Or.inl (by decide +kernel)) rfl rfl (Or.inl rfl) (ip_D_isInitialReaching G t a1 a2 M y h)

set_option maxRecDepth 100000 in
set_option maxHeartbeats 4000000 in
theorem ip_O_left (G : gl_T) (a1 : Int32) (M : mm_T) : im_I mi_O_left 1 20 G M (sh_i M) (ff_O_left a1 M) 0 [some (.int a1)] [] M := by
  unfold ff_O_left
  refine im_iload_n 0 0 rfl rfl ?_
  refine im_iconst 1 1 rfl rfl ?_
  refine im_iushr 2 2 rfl ?_
  refine im_bipush 3 3 rfl rfl ?_
  refine im_iand 4 5 rfl ?_
  exact im_end rfl (wp_ireturn 5 6 rfl rfl)

theorem sp_O_left (G : gl_T) {a1 : Int32} {M : mm_T} {y : Int32} (h : ff_O_left a1 M = some y) : sp_S mi_O_left 1 20 G [.int a1] M ((sh_i M) y).1 ((sh_i M) y).2 := sp_of mo_O_left mw_O_left (Or.inl (by decide +kernel)) rfl rfl (Or.inl rfl) (ip_O_left G a1 M y h)

set_option maxRecDepth 100000 in
set_option maxHeartbeats 4000000 in
theorem ip_O_right (G : gl_T) (a1 : Int32) (M : mm_T) : im_I mi_O_right 1 20 G M (sh_i M) (ff_O_right a1 M) 0 [some (.int a1)] [] M := by
  unfold ff_O_right
  refine im_iload_n 0 0 rfl rfl ?_
  refine im_bipush 1 1 rfl rfl ?_
  refine im_iushr 2 3 rfl ?_
  refine im_bipush 3 4 rfl rfl ?_
  refine im_iand 4 6 rfl ?_
  exact im_end rfl (wp_ireturn 5 7 rfl rfl)

theorem sp_O_right (G : gl_T) {a1 : Int32} {M : mm_T} {y : Int32} (h : ff_O_right a1 M = some y) : sp_S mi_O_right 1 20 G [.int a1] M ((sh_i M) y).1 ((sh_i M) y).2 := sp_of mo_O_right mw_O_right (Or.inl (by decide +kernel)) rfl rfl (Or.inl rfl) (ip_O_right G a1 M y h)

set_option maxRecDepth 100000 in
set_option maxHeartbeats 4000000 in
theorem ip_P_operandAt (G : gl_T) (t : Nat) (a1 : Int32) (a2 : Int32) (M : mm_T) : im_I mi_P_operandAt 2 41 G M (sh_i M) (ff_P_operandAt t a1 a2 M) 0 [some (.ref t), some (.int a1), some (.int a2), none] [] M := by
  unfold ff_P_operandAt
  refine im_gd (fun hg => ?_)
  refine im_aload_n 0 0 rfl rfl ?_
  refine im_getR 1 1 rfl fd_P_9 (by decide +kernel) (fun x1 => ?_)
  refine im_iload_n 2 4 rfl rfl ?_
  refine im_ci (S := []) (fun _ hv => cpS (fr' := 1) (lo' := 20) (i := 3) (As := [.ref x1, .int a1]) (S := []) rfl lk_P_41 mw_D_at_a mv_D_at_a rfl rfl rfl rfl (sp_D_at_a G hv)) (fun x2 => ?_)
  refine im_istore_n 4 8 [some (.ref t), some (.int a1), some (.int a2), some (.int x2)] rfl rfl rfl ?_
  refine im_iload_n 5 9 rfl rfl ?_
  refine im_jp (fun j25 => im_I mi_P_operandAt 2 41 G M (sh_i M) (j25) 25 [none, none, some (.int a2), some (.int x2)] [] M) ?_ (fun j25 hj25 => ?_)
  · show im_I mi_P_operandAt 2 41 G M (sh_i M) (_) 25 [none, none, some (.int a2), some (.int x2)] [] M
    refine im_iload_n 13 25 rfl rfl ?_
    refine im_iconst 14 26 rfl rfl ?_
    refine im_ic_ne 15 27 45 rfl (by decide) ?_ ?_
    · refine im_iconst 23 45 rfl rfl ?_
      exact im_end rfl (wp_ireturn 24 46 rfl rfl)
    · refine im_iload_n 16 30 rfl rfl ?_
      refine im_ci (S := []) (fun _ hv => cpS (fr' := 1) (lo' := 20) (i := 17) (As := [.int x2]) (S := []) rfl lk_P_60 mw_O_kind mv_O_kind rfl rfl rfl rfl (sp_O_kind G hv)) (fun x3 => ?_)
      refine im_iconst 18 34 rfl rfl ?_
      refine im_ic_ne 19 35 45 rfl (by decide) ?_ ?_
      · refine im_iconst 23 45 rfl rfl ?_
        exact im_end rfl (wp_ireturn 24 46 rfl rfl)
      · refine im_iload_n 20 38 rfl rfl ?_
        refine im_ci (S := []) (fun _ hv => cpS (fr' := 1) (lo' := 20) (i := 21) (As := [.int x2]) (S := []) rfl lk_P_81 mw_O_right mv_O_right rfl rfl rfl rfl (sp_O_right G hv)) (fun x4 => ?_)
        refine im_goto 22 42 46 rfl (by decide) ?_
        exact im_end rfl (wp_ireturn 24 46 rfl rfl)
  refine im_if_ne 6 10 25 rfl (by decide) ?_ ?_
  · exact im_less _ (by simp [lv_le]) (hj25)
  · refine im_iload_n 7 13 rfl rfl ?_
    refine im_ci (S := []) (fun _ hv => cpS (fr' := 1) (lo' := 20) (i := 8) (As := [.int x2]) (S := []) rfl lk_P_60 mw_O_kind mv_O_kind rfl rfl rfl rfl (sp_O_kind G hv)) (fun x5 => ?_)
    refine im_if_eq 9 17 25 rfl (by decide) ?_ ?_
    · exact im_less _ (by simp [lv_le]) (hj25)
    · refine im_iload_n 10 20 rfl rfl ?_
      refine im_ci (S := []) (fun _ hv => cpS (fr' := 1) (lo' := 20) (i := 11) (As := [.int x2]) (S := []) rfl lk_P_78 mw_O_left mv_O_left rfl rfl rfl rfl (sp_O_left G hv)) (fun x6 => ?_)
      exact im_end rfl (wp_ireturn 12 24 rfl rfl)

theorem sp_P_operandAt (G : gl_T) {t : Nat} {a1 : Int32} {a2 : Int32} {M : mm_T} {y : Int32} (h : ff_P_operandAt t a1 a2 M = some y) : sp_S mi_P_operandAt 2 41 G [.ref t, .int a1, .int a2] M ((sh_i M) y).1 ((sh_i M) y).2 := sp_of mo_P_operandAt mw_P_operandAt (Or.inl (by decide +kernel)) rfl rfl (Or.inl rfl) (ip_P_operandAt G t a1 a2 M y h)

set_option maxRecDepth 100000 in
set_option maxHeartbeats 4000000 in
theorem ip_P_usedAt (G : gl_T) (t : Nat) (a1 : Int32) (M : mm_T) : im_I mi_P_usedAt 3 64 G M (sh_i M) (ff_P_usedAt t a1 M) 0 [some (.ref t), some (.int a1), none, none] [] M := by
  unfold ff_P_usedAt
  refine im_gd (fun hg => ?_)
  refine im_iload_n 0 0 rfl rfl ?_
  refine im_bipush 1 1 rfl rfl ?_
  refine im_ic_lt 2 3 38 rfl (by decide) ?_ ?_
  · refine im_aload_n 22 38 rfl rfl ?_
    refine im_iload_n 23 39 rfl rfl ?_
    refine im_iconst 24 40 rfl rfl ?_
    refine im_ci (S := []) (fun _ hv => cpV (fr' := 2) (lo' := 41) (i := 25) (As := [.int a1, .int (0 : Int32)]) (S := []) (a := t) (c := 7) rfl lk_P_84 mw_P_operandAt mv_P_operandAt rfl ⟨by decide, rfl⟩ rfl rfl rfl (gd_some hv).1 (sp_P_operandAt G hv)) (fun x1 => ?_)
    refine im_istore_n 26 44 [some (.ref t), some (.int a1), some (.int x1), none] rfl rfl rfl ?_
    refine im_aload_n 27 45 rfl rfl ?_
    refine im_iload_n 28 46 rfl rfl ?_
    refine im_iconst 29 47 rfl rfl ?_
    refine im_ci (S := []) (fun _ hv => cpV (fr' := 2) (lo' := 41) (i := 30) (As := [.int a1, .int (1 : Int32)]) (S := []) (a := t) (c := 7) rfl lk_P_84 mw_P_operandAt mv_P_operandAt rfl ⟨by decide, rfl⟩ rfl rfl rfl (gd_some hv).1 (sp_P_operandAt G hv)) (fun x2 => ?_)
    refine im_istore_n 31 51 [some (.ref t), some (.int a1), some (.int x1), some (.int x2)] rfl rfl rfl ?_
    refine im_iload_n 32 52 rfl rfl ?_
    refine im_iconst 33 53 rfl rfl ?_
    refine im_jp (fun j64 => ∀ (x3 : Int32), im_I mi_P_usedAt 3 64 G M (sh_i M) (j64 x3) 64 [none, none, none, some (.int x2)] [.int x3] M) ?_ (fun j64 hj64 => ?_)
    · intro x3
      show im_I mi_P_usedAt 3 64 G M (sh_i M) (_) 64 [none, none, none, some (.int x2)] [.int x3] M
      refine im_iload_n 40 64 rfl rfl ?_
      refine im_iconst 41 65 rfl rfl ?_
      refine im_jp (fun j76 => ∀ (x4 : Int32), im_I mi_P_usedAt 3 64 G M (sh_i M) (j76 x4) 76 [none, none, none, none] [.int x4, .int x3] M) ?_ (fun j76 hj76 => ?_)
      · intro x4
        show im_I mi_P_usedAt 3 64 G M (sh_i M) (_) 76 [none, none, none, none] [.int x4, .int x3] M
        refine im_ior 48 76 rfl ?_
        exact im_end rfl (wp_ireturn 49 77 rfl rfl)
      refine im_ic_ne 42 66 73 rfl (by decide) ?_ ?_
      · refine im_iconst 45 73 rfl rfl ?_
        refine im_iload_n 46 74 rfl rfl ?_
        refine im_ishl 47 75 rfl ?_
        exact im_less _ (by simp [lv_le]) (hj76 ((io_shl (1 : Int32) x2)))
      · refine im_iconst 43 69 rfl rfl ?_
        refine im_goto 44 70 76 rfl (by decide) ?_
        exact im_less _ (by simp [lv_le]) (hj76 (0 : Int32))
    refine im_ic_ne 34 54 61 rfl (by decide) ?_ ?_
    · refine im_iconst 37 61 rfl rfl ?_
      refine im_iload_n 38 62 rfl rfl ?_
      refine im_ishl 39 63 rfl ?_
      exact im_less _ (by simp [lv_le]) (hj64 ((io_shl (1 : Int32) x1)))
    · refine im_iconst 35 57 rfl rfl ?_
      refine im_goto 36 58 64 rfl (by decide) ?_
      exact im_less _ (by simp [lv_le]) (hj64 (0 : Int32))
  · refine im_iload_n 3 6 rfl rfl ?_
    refine im_bipush 4 7 rfl rfl ?_
    refine im_isub 5 9 rfl ?_
    refine im_letI (fun x5 => ?_)
    refine im_istore_n 6 10 [some (.ref t), some (.int a1), some (.int x5), none] rfl rfl rfl ?_
    refine im_aload_n 7 11 rfl rfl ?_
    refine im_getR 8 12 rfl fd_P_18 (by decide +kernel) (fun x6 => ?_)
    refine im_iload_n 9 15 rfl rfl ?_
    refine im_ci (S := []) (fun _ hv => cpS (fr' := 1) (lo' := 20) (i := 10) (As := [.ref x6, .int x5]) (S := []) rfl lk_P_41 mw_D_at_a mv_D_at_a rfl rfl rfl rfl (sp_D_at_a G hv)) (fun x7 => ?_)
    refine im_iconst 11 19 rfl rfl ?_
    refine im_ic_ne 12 20 36 rfl (by decide) ?_ ?_
    · refine im_iconst 20 36 rfl rfl ?_
      exact im_end rfl (wp_ireturn 21 37 rfl rfl)
    · refine im_iconst 13 23 rfl rfl ?_
      refine im_aload_n 14 24 rfl rfl ?_
      refine im_getR 15 25 rfl fd_P_21 (by decide +kernel) (fun x8 => ?_)
      refine im_iload_n 16 28 rfl rfl ?_
      refine im_ci (S := [.int (1 : Int32)]) (fun _ hv => cpS (fr' := 1) (lo' := 20) (i := 17) (As := [.ref x8, .int x5]) (S := [.int (1 : Int32)]) rfl lk_P_41 mw_D_at_a mv_D_at_a rfl rfl rfl rfl (sp_D_at_a G hv)) (fun x9 => ?_)
      refine im_ishl 18 32 rfl ?_
      refine im_goto 19 33 37 rfl (by decide) ?_
      exact im_end rfl (wp_ireturn 21 37 rfl rfl)

theorem sp_P_usedAt (G : gl_T) {t : Nat} {a1 : Int32} {M : mm_T} {y : Int32} (h : ff_P_usedAt t a1 M = some y) : sp_S mi_P_usedAt 3 64 G [.ref t, .int a1] M ((sh_i M) y).1 ((sh_i M) y).2 := sp_of mo_P_usedAt mw_P_usedAt (Or.inl (by decide +kernel)) rfl rfl (Or.inl rfl) (ip_P_usedAt G t a1 M y h)

set_option maxRecDepth 100000 in
set_option maxHeartbeats 4000000 in
theorem li_R_countUses_12 (G : gl_T) (p0 : Nat) (p1 : Nat) (p2 : Int32) (p3 : Int32) (M : mm_T) : ∀ (fu : Nat) (q4 : Int32) (q5 : Int32), im_I mi_R_countUses 4 87 G M (sh_i M) (lf_R_countUses_12 p0 p1 p2 p3 M fu q4 q5) 12 [some (.ref p0), some (.ref p1), some (.int p2), some (.int p3), some (.int q4), some (.int q5)] [] M := by
  intro fu
  induction fu with
  | zero => intro _ _; exact im_none
  | succ fu ih =>
    intro q4 q5
    show im_I mi_R_countUses 4 87 G M (sh_i M) (lb_R_countUses_12 p0 p1 p2 p3 M (lf_R_countUses_12 p0 p1 p2 p3 M fu) q4 q5) 12 [some (.ref p0), some (.ref p1), some (.int p2), some (.int p3), some (.int q4), some (.int q5)] [] M
    unfold lb_R_countUses_12
    refine im_iload_n 8 12 rfl rfl ?_
    refine im_iconst 9 13 rfl rfl ?_
    refine im_ic_eq 10 14 63 rfl (by decide) ?_ ?_
    · refine im_iload 31 63 rfl rfl ?_
      exact im_end rfl (wp_ireturn 32 65 rfl rfl)
    · refine im_iload 11 17 rfl rfl ?_
      refine im_bipush 12 19 rfl rfl ?_
      refine im_ic_ge 13 21 63 rfl (by decide) ?_ ?_
      · refine im_iload 31 63 rfl rfl ?_
        exact im_end rfl (wp_ireturn 32 65 rfl rfl)
      · refine im_aload_n 14 24 rfl rfl ?_
        refine im_getR 15 25 rfl fd_R_9 (by decide +kernel) (fun x2 => ?_)
        refine im_iload 16 28 rfl rfl ?_
        refine im_cj (S := []) (fun _ hv => cpS (fr' := 1) (lo' := 20) (i := 17) (As := [.ref x2, .int q5]) (S := []) rfl lk_R_56 mw_D_at_b mv_D_at_b rfl rfl rfl rfl (sp_D_at_b G hv)) (fun x3 => ?_)
        refine im_iload_n 18 33 rfl rfl ?_
        refine im_ci (S := []) (fun _ hv => cpS (fr' := 1) (lo' := 20) (i := 19) (As := [.long x3, .int p2]) (S := []) rfl lk_R_66 mw_D_hasBit mv_D_hasBit rfl rfl rfl rfl (sp_D_hasBit G hv)) (fun x4 => ?_)
        refine im_jp (fun j57 => ∀ (x5 : Int32), im_I mi_R_countUses 4 87 G M (sh_i M) (j57 x5) 57 [some (.ref p0), some (.ref p1), some (.int p2), some (.int p3), some (.int x5), some (.int q5)] [] M) ?_ (fun j57 hj57 => ?_)
        · intro x5
          show im_I mi_R_countUses 4 87 G M (sh_i M) (_) 57 [some (.ref p0), some (.ref p1), some (.int p2), some (.int p3), some (.int x5), some (.int q5)] [] M
          refine im_iincL 29 57 (fun x6 => [some (.ref p0), some (.ref p1), some (.int p2), some (.int p3), some (.int x5), some (.int x6)]) rfl rfl rfl rfl (fun _ => rfl) (fun x6 => ?_)
          refine im_goto 30 60 12 rfl (by decide) ?_
          exact im_less _ (by simp [lv_le]) (ih x5 x6)
        refine im_if_eq 20 37 57 rfl (by decide) ?_ ?_
        · exact im_less _ (by simp [lv_le]) (hj57 q4)
        · refine im_aload_n 21 40 rfl rfl ?_
          refine im_iload 22 41 rfl rfl ?_
          refine im_ci (S := []) (fun _ hv => cpV (fr' := 3) (lo' := 64) (i := 23) (As := [.int q5]) (S := []) (a := p1) (c := 7) rfl lk_R_70 mw_P_usedAt mv_P_usedAt rfl ⟨by decide, rfl⟩ rfl rfl rfl (gd_some hv).1 (sp_P_usedAt G hv)) (fun x7 => ?_)
          refine im_i2l 24 46 rfl ?_
          refine im_iload_n 25 47 rfl rfl ?_
          refine im_ci (S := []) (fun _ hv => cpS (fr' := 1) (lo' := 20) (i := 26) (As := [.long ((x7).toInt64), .int p3]) (S := []) rfl lk_R_66 mw_D_hasBit mv_D_hasBit rfl rfl rfl rfl (sp_D_hasBit G hv)) (fun x8 => ?_)
          refine im_if_eq 27 51 57 rfl (by decide) ?_ ?_
          · exact im_less _ (by simp [lv_le]) (hj57 q4)
          · refine im_iincL 28 54 (fun x9 => [some (.ref p0), some (.ref p1), some (.int p2), some (.int p3), some (.int x9), some (.int q5)]) rfl rfl rfl rfl (fun _ => rfl) (fun x9 => ?_)
            exact im_less _ (by simp [lv_le]) (hj57 x9)

set_option maxRecDepth 100000 in
set_option maxHeartbeats 4000000 in
theorem ip_R_countUses (G : gl_T) (t : Nat) (a1 : Nat) (a2 : Int32) (M : mm_T) : im_I mi_R_countUses 4 87 G M (sh_i M) (ff_R_countUses t a1 a2 M) 0 [some (.ref t), some (.ref a1), some (.int a2), none, none, none] [] M := by
  unfold ff_R_countUses
  refine im_gd (fun hg => ?_)
  refine im_aload_n 0 0 rfl rfl ?_
  refine im_iload_n 1 1 rfl rfl ?_
  refine im_ci (S := []) (fun _ hv => cpV (fr' := 3) (lo' := 62) (i := 2) (As := [.int a2]) (S := []) (a := a1) (c := 7) rfl lk_R_63 mw_P_definedAt mv_P_definedAt rfl ⟨by decide, rfl⟩ rfl rfl rfl (gd_some hv).1 (sp_P_definedAt G hv)) (fun x1 => ?_)
  refine im_istore_n 3 5 [some (.ref t), some (.ref a1), some (.int a2), some (.int x1), none, none] rfl rfl rfl ?_
  refine im_iconst 4 6 rfl rfl ?_
  refine im_istore 5 7 [some (.ref t), some (.ref a1), some (.int a2), some (.int x1), some (.int (0 : Int32)), none] rfl rfl rfl ?_
  refine im_iconst 6 9 rfl rfl ?_
  refine im_istore 7 10 [some (.ref t), some (.ref a1), some (.int a2), some (.int x1), some (.int (0 : Int32)), some (.int (0 : Int32))] rfl rfl rfl ?_
  refine im_less [some (.ref t), some (.ref a1), some (.int a2), some (.int x1), some (.int (0 : Int32)), some (.int (0 : Int32))] (by simp [lv_le]) ?_
  exact li_R_countUses_12 G t a1 a2 x1 M fu_L (0 : Int32) (0 : Int32)

theorem sp_R_countUses (G : gl_T) {t : Nat} {a1 : Nat} {a2 : Int32} {M : mm_T} {y : Int32} (h : ff_R_countUses t a1 a2 M = some y) : sp_S mi_R_countUses 4 87 G [.ref t, .ref a1, .int a2] M ((sh_i M) y).1 ((sh_i M) y).2 := sp_of mo_R_countUses mw_R_countUses (Or.inl (by decide +kernel)) rfl rfl (Or.inl rfl) (ip_R_countUses G t a1 a2 M y h)

set_option maxRecDepth 100000 in
set_option maxHeartbeats 4000000 in
theorem ip_D_usesOf (G : gl_T) (t : Nat) (a1 : Int32) (M : mm_T) : im_I mi_D_usesOf 7 158 G M sX_i (ff_D_usesOf t a1 M) 0 [some (.ref t), some (.int a1)] [] M := by
  unfold ff_D_usesOf
  refine im_gd (fun hg => ?_)
  refine im_aload_n 0 0 rfl rfl ?_
  refine im_iload_n 1 1 rfl rfl ?_
  refine im_rq (S := []) (fun hv => cpV (fr' := 6) (lo' := 90) (i := 2) (As := [.int a1]) (S := []) (a := t) (c := 10) rfl lk_D_144 mw_D_requireInstruction mv_D_requireInstruction rfl ⟨by decide, rfl⟩ rfl rfl rfl (gd_some hv).1 (sp_D_requireInstruction G hv)) (fun _ hv => xpV (fr' := 6) (lo' := 90) (i := 2) (As := [.int a1]) (S := []) (a := t) (c := 10) rfl lm_D_144 mw_D_requireInstruction mv_D_requireInstruction rfl ⟨by decide, rfl⟩ rfl rfl rfl (gd_some hv).1 (sp_D_requireInstruction G hv) (tw_out rfl)) (fun _ => rfl) ?_
  refine im_aload_n 3 5 rfl rfl ?_
  refine im_cWr (S := []) (fun _ _ hv => cpV (fr' := 6) (lo' := 138) (i := 4) (As := []) (S := []) (a := t) (c := 10) rfl lk_D_184 mw_D_reaching mv_D_reaching rfl ⟨by decide, rfl⟩ rfl rfl rfl (gd_some hv).1 (sp_D_reaching G hv)) (fun x1 M1 => ?_)
  refine im_aload_n 5 9 rfl rfl ?_
  refine im_getR 6 10 rfl fd_D_87 (by decide +kernel) (fun x2 => ?_)
  refine im_iload_n 7 13 rfl rfl ?_
  refine im_ci (S := []) (fun _ hv => cpV (fr' := 4) (lo' := 87) (i := 8) (As := [.ref x2, .int a1]) (S := []) (a := x1) (c := 8) rfl lk_D_213 mw_R_countUses mv_R_countUses rfl ⟨by decide, rfl⟩ rfl rfl rfl (gd_some hv).1 (sp_R_countUses G hv)) (fun x3 => ?_)
  exact im_end rfl (wp_ireturn 9 17 rfl rfl)

theorem sp_D_usesOf (G : gl_T) {t : Nat} {a1 : Int32} {M : mm_T} {y : (Int32 ⊕ String) × mm_T} (h : ff_D_usesOf t a1 M = some y) : sp_S mi_D_usesOf 7 158 G [.ref t, .int a1] M (sX_i y).1 (sX_i y).2 := sp_of mo_D_usesOf mw_D_usesOf (Or.inl (by decide +kernel)) rfl rfl (Or.inl rfl) (ip_D_usesOf G t a1 M y h)

set_option maxRecDepth 100000 in
set_option maxHeartbeats 4000000 in
theorem li_R_onlyDefinitionAt_36 (G : gl_T) (p3 : Int64) (M : mm_T) : ∀ (fu : Nat) (q5 : Int32), im_I mi_R_onlyDefinitionAt 3 63 G M (sh_i M) (lf_R_onlyDefinitionAt_36 p3 M fu q5) 36 [none, none, none, some (.long p3), none, some (.int q5)] [] M := by
  intro fu
  induction fu with
  | zero => intro _; exact im_none
  | succ fu ih =>
    intro q5
    show im_I mi_R_onlyDefinitionAt 3 63 G M (sh_i M) (lb_R_onlyDefinitionAt_36 p3 M (lf_R_onlyDefinitionAt_36 p3 M fu) q5) 36 [none, none, none, some (.long p3), none, some (.int q5)] [] M
    unfold lb_R_onlyDefinitionAt_36
    refine im_iload 21 36 rfl rfl ?_
    refine im_bipush 22 38 rfl rfl ?_
    refine im_ic_ge 23 40 58 rfl (by decide) ?_ ?_
    · refine im_iload 30 58 rfl rfl ?_
      exact im_end rfl (wp_ireturn 31 60 rfl rfl)
    · refine im_lload_n 24 43 rfl rfl ?_
      refine im_iload 25 44 rfl rfl ?_
      refine im_ci (S := []) (fun _ hv => cpS (fr' := 1) (lo' := 20) (i := 26) (As := [.long p3, .int q5]) (S := []) rfl lk_R_66 mw_D_hasBit mv_D_hasBit rfl rfl rfl rfl (sp_D_hasBit G hv)) (fun x6 => ?_)
      refine im_if_ne 27 49 58 rfl (by decide) ?_ ?_
      · refine im_iload 30 58 rfl rfl ?_
        exact im_end rfl (wp_ireturn 31 60 rfl rfl)
      · refine im_iincL 28 52 (fun x7 => [none, none, none, some (.long p3), none, some (.int x7)]) rfl rfl rfl rfl (fun _ => rfl) (fun x7 => ?_)
        refine im_goto 29 55 36 rfl (by decide) ?_
        exact im_less _ (by simp [lv_le]) (ih x7)

set_option maxRecDepth 100000 in
set_option maxHeartbeats 4000000 in
theorem ip_R_onlyDefinitionAt (G : gl_T) (t : Nat) (a1 : Int32) (a2 : Int32) (M : mm_T) : im_I mi_R_onlyDefinitionAt 3 63 G M (sh_i M) (ff_R_onlyDefinitionAt t a1 a2 M) 0 [some (.ref t), some (.int a1), some (.int a2), none, none, none] [] M := by
  unfold ff_R_onlyDefinitionAt
  refine im_gd (fun hg => ?_)
  refine im_aload_n 0 0 rfl rfl ?_
  refine im_iload_n 1 1 rfl rfl ?_
  refine im_iload_n 2 2 rfl rfl ?_
  refine im_cj (S := []) (fun _ hv => cpV (fr' := 2) (lo' := 41) (i := 3) (As := [.int a1, .int a2]) (S := []) (a := t) (c := 8) rfl lk_R_73 mw_R_definitionsAt_b mv_R_definitionsAt_b rfl ⟨by decide, rfl⟩ rfl rfl rfl (gd_some hv).1 (sp_R_definitionsAt_b G hv)) (fun x1 => ?_)
  refine im_lstore_n 4 6 [some (.ref t), some (.int a1), some (.int a2), some (.long x1), none, none] rfl rfl rfl ?_
  refine im_aload_n 5 7 rfl rfl ?_
  refine im_getR 6 8 rfl fd_R_15 (by decide +kernel) (fun x2 => ?_)
  refine im_iload_n 7 11 rfl rfl ?_
  refine im_ci (S := []) (fun _ hv => cpS (fr' := 1) (lo' := 20) (i := 8) (As := [.ref x2, .int a1]) (S := []) rfl lk_R_60 mw_D_at_a mv_D_at_a rfl rfl rfl rfl (sp_D_at_a G hv)) (fun x3 => ?_)
  refine im_i2l 9 15 rfl ?_
  refine im_iload_n 10 16 rfl rfl ?_
  refine im_ci (S := []) (fun _ hv => cpS (fr' := 1) (lo' := 20) (i := 11) (As := [.long ((x3).toInt64), .int a2]) (S := []) rfl lk_R_66 mw_D_hasBit mv_D_hasBit rfl rfl rfl rfl (sp_D_hasBit G hv)) (fun x4 => ?_)
  refine im_if_ne 12 20 31 rfl (by decide) ?_ ?_
  · refine im_iconst 17 31 rfl rfl ?_
    exact im_end rfl (wp_ireturn 18 32 rfl rfl)
  · refine im_lload_n 13 23 rfl rfl ?_
    refine im_ci (S := []) (fun _ hv => cpS (fr' := 1) (lo' := 20) (i := 14) (As := [.long x1]) (S := []) rfl lk_R_77 mw_JL_bitCount mv_JL_bitCount rfl rfl rfl rfl (sp_JL_bitCount G hv)) (fun x5 => ?_)
    refine im_iconst 15 27 rfl rfl ?_
    refine im_ic_eq 16 28 33 rfl (by decide) ?_ ?_
    · refine im_iconst 19 33 rfl rfl ?_
      refine im_istore 20 34 [some (.ref t), some (.int a1), some (.int a2), some (.long x1), none, some (.int (0 : Int32))] rfl rfl rfl ?_
      refine im_less [none, none, none, some (.long x1), none, some (.int (0 : Int32))] (by simp [lv_le]) ?_
      exact li_R_onlyDefinitionAt_36 G x1 M fu_L (0 : Int32)
    · refine im_iconst 17 31 rfl rfl ?_
      exact im_end rfl (wp_ireturn 18 32 rfl rfl)

theorem sp_R_onlyDefinitionAt (G : gl_T) {t : Nat} {a1 : Int32} {a2 : Int32} {M : mm_T} {y : Int32} (h : ff_R_onlyDefinitionAt t a1 a2 M = some y) : sp_S mi_R_onlyDefinitionAt 3 63 G [.ref t, .int a1, .int a2] M ((sh_i M) y).1 ((sh_i M) y).2 := sp_of mo_R_onlyDefinitionAt mw_R_onlyDefinitionAt (Or.inl (by decide +kernel)) rfl rfl (Or.inl rfl) (ip_R_onlyDefinitionAt G t a1 a2 M y h)

set_option maxRecDepth 100000 in
set_option maxHeartbeats 4000000 in
theorem li_L_flow_5 (G : gl_T) (M0 : mm_T) (k0 : Int32 → Option (Int32 × mm_T)) (p0 : Nat) (p1 : Nat) (p2 : Int32) (M : mm_T) (hk0 : ∀ (z3 : Int32), im_I mi_L_flow 4 87 G M0 sw_i (k0 z3) 38 [some (.ref p0), some (.ref p1), some (.int p2), some (.int z3), none, none] [] M) : ∀ (fu : Nat) (q3 : Int32) (q4 : Int32), im_I mi_L_flow 4 87 G M0 sw_i (lf_L_flow_5 k0 p0 p1 p2 M fu q3 q4) 5 [some (.ref p0), some (.ref p1), some (.int p2), some (.int q3), some (.int q4), none] [] M := by
  intro fu
  induction fu with
  | zero => intro _ _; exact im_none
  | succ fu ih =>
    intro q3 q4
    show im_I mi_L_flow 4 87 G M0 sw_i (lb_L_flow_5 k0 p0 p1 p2 M (lf_L_flow_5 k0 p0 p1 p2 M fu) q3 q4) 5 [some (.ref p0), some (.ref p1), some (.int p2), some (.int q3), some (.int q4), none] [] M
    unfold lb_L_flow_5
    refine im_iload 4 5 rfl rfl ?_
    refine im_aload_n 5 7 rfl rfl ?_
    refine im_iload_n 6 8 rfl rfl ?_
    refine im_ci (S := [.int q4]) (fun _ hv => cpV (fr' := 2) (lo' := 41) (i := 7) (As := [.int p2]) (S := [.int q4]) (a := p1) (c := 7) rfl lk_L_73 mw_P_nextCount mv_P_nextCount rfl ⟨by decide, rfl⟩ rfl rfl rfl (gd_some hv).1 (sp_P_nextCount G hv)) (fun x1 => ?_)
    refine im_ic_ge 8 12 38 rfl (by decide) ?_ ?_
    · exact im_less _ (by simp [lv_le]) (hk0 q3)
    · refine im_iload_n 9 15 rfl rfl ?_
      refine im_aload_n 10 16 rfl rfl ?_
      refine im_getR 11 17 rfl fd_L_9 (by decide +kernel) (fun x2 => ?_)
      refine im_aload_n 12 20 rfl rfl ?_
      refine im_iload_n 13 21 rfl rfl ?_
      refine im_iload 14 22 rfl rfl ?_
      refine im_ci (S := [.ref x2, .int q3]) (fun _ hv => cpV (fr' := 3) (lo' := 63) (i := 15) (As := [.int p2, .int q4]) (S := [.ref x2, .int q3]) (a := p1) (c := 7) rfl lk_L_76 mw_P_nextPoint mv_P_nextPoint rfl ⟨by decide, rfl⟩ rfl rfl rfl (gd_some hv).1 (sp_P_nextPoint G hv)) (fun x3 => ?_)
      refine im_ci (S := [.int q3]) (fun _ hv => cpS (fr' := 1) (lo' := 20) (i := 16) (As := [.ref x2, .int x3]) (S := [.int q3]) rfl lk_L_37 mw_D_at_a mv_D_at_a rfl rfl rfl rfl (sp_D_at_a G hv)) (fun x4 => ?_)
      refine im_ior 17 30 rfl ?_
      refine im_letI (fun x5 => ?_)
      refine im_istore_n 18 31 [some (.ref p0), some (.ref p1), some (.int p2), some (.int x5), some (.int q4), none] rfl rfl rfl ?_
      refine im_iincL 19 32 (fun x6 => [some (.ref p0), some (.ref p1), some (.int p2), some (.int x5), some (.int x6), none]) rfl rfl rfl rfl (fun _ => rfl) (fun x6 => ?_)
      refine im_goto 20 35 5 rfl (by decide) ?_
      exact im_less _ (by simp [lv_le]) (ih x5 x6)

set_option maxRecDepth 100000 in
set_option maxHeartbeats 4000000 in
theorem ip_L_flow (G : gl_T) (t : Nat) (a1 : Nat) (a2 : Int32) (M : mm_T) : im_I mi_L_flow 4 87 G M sw_i (ff_L_flow t a1 a2 M) 0 [some (.ref t), some (.ref a1), some (.int a2), none, none, none] [] M := by
  unfold ff_L_flow
  refine im_gd (fun hg => ?_)
  refine im_iconst 0 0 rfl rfl ?_
  refine im_istore_n 1 1 [some (.ref t), some (.ref a1), some (.int a2), some (.int (0 : Int32)), none, none] rfl rfl rfl ?_
  refine im_iconst 2 2 rfl rfl ?_
  refine im_istore 3 3 [some (.ref t), some (.ref a1), some (.int a2), some (.int (0 : Int32)), some (.int (0 : Int32)), none] rfl rfl rfl ?_
  refine im_less [some (.ref t), some (.ref a1), some (.int a2), some (.int (0 : Int32)), some (.int (0 : Int32)), none] (by simp [lv_le]) ?_
  refine li_L_flow_5 G M _ t a1 a2 M ?_ fu_L (0 : Int32) (0 : Int32)
  · intro x7
    show im_I mi_L_flow 4 87 G M sw_i (_) 38 [some (.ref t), some (.ref a1), some (.int a2), some (.int x7), none, none] [] M
    refine im_aload_n 21 38 rfl rfl ?_
    refine im_getR 22 39 rfl fd_L_15 (by decide +kernel) (fun x8 => ?_)
    refine im_iload_n 23 42 rfl rfl ?_
    refine im_iload_n 24 43 rfl rfl ?_
    refine im_cWv (S := []) (fun _ hv => cpS (fr' := 1) (lo' := 20) (i := 25) (As := [.ref x8, .int a2, .int x7]) (S := []) rfl lk_L_79 mw_D_put_a mv_D_put_a rfl rfl rfl rfl (sp_D_put_a G hv)) (fun M1 => ?_)
    refine im_aload_n 26 47 rfl rfl ?_
    refine im_iload_n 27 48 rfl rfl ?_
    refine im_ci (S := []) (fun _ hv => cpV (fr' := 3) (lo' := 62) (i := 28) (As := [.int a2]) (S := []) (a := a1) (c := 7) rfl lk_L_41 mw_P_definedAt mv_P_definedAt rfl ⟨by decide, rfl⟩ rfl rfl rfl (gd_some hv).1 (sp_P_definedAt G hv)) (fun x9 => ?_)
    refine im_istore 29 52 [some (.ref t), some (.ref a1), some (.int a2), some (.int x7), some (.int x9), none] rfl rfl rfl ?_
    refine im_iload 30 54 rfl rfl ?_
    refine im_iconst 31 56 rfl rfl ?_
    refine im_jp (fun j69 => ∀ (x10 : Int32), im_I mi_L_flow 4 87 G M sw_i (j69 x10) 69 [some (.ref t), some (.ref a1), some (.int a2), some (.int x10), none, none] [] M1) ?_ (fun j69 hj69 => ?_)
    · intro x10
      show im_I mi_L_flow 4 87 G M sw_i (_) 69 [some (.ref t), some (.ref a1), some (.int a2), some (.int x10), none, none] [] M1
      refine im_iload_n 41 69 rfl rfl ?_
      refine im_aload_n 42 70 rfl rfl ?_
      refine im_iload_n 43 71 rfl rfl ?_
      refine im_ci (S := [.int x10]) (fun _ hv => cpV (fr' := 3) (lo' := 64) (i := 44) (As := [.int a2]) (S := [.int x10]) (a := a1) (c := 7) rfl lk_L_83 mw_P_usedAt mv_P_usedAt rfl ⟨by decide, rfl⟩ rfl rfl rfl (gd_some hv).1 (sp_P_usedAt G hv)) (fun x11 => ?_)
      refine im_ior 45 75 rfl ?_
      refine im_letI (fun x12 => ?_)
      refine im_istore_n 46 76 [some (.ref t), some (.ref a1), some (.int a2), some (.int x12), none, none] rfl rfl rfl ?_
      refine im_iload_n 47 77 rfl rfl ?_
      refine im_aload_n 48 78 rfl rfl ?_
      refine im_getR 49 79 rfl fd_L_9 (by decide +kernel) (fun x13 => ?_)
      refine im_iload_n 50 82 rfl rfl ?_
      refine im_ci (S := [.int x12]) (fun _ hv => cpS (fr' := 1) (lo' := 20) (i := 51) (As := [.ref x13, .int a2]) (S := [.int x12]) rfl lk_L_37 mw_D_at_a mv_D_at_a rfl rfl rfl rfl (sp_D_at_a G hv)) (fun x14 => ?_)
      refine im_jp (fun j94 => ∀ (x15 : Int32), im_I mi_L_flow 4 87 G M sw_i (j94 x15) 94 [some (.ref t), none, some (.int a2), some (.int x12), none, none] [.int x15] M1) ?_ (fun j94 hj94 => ?_)
      · intro x15
        show im_I mi_L_flow 4 87 G M sw_i (_) 94 [some (.ref t), none, some (.int a2), some (.int x12), none, none] [.int x15] M1
        refine im_istore 56 94 [some (.ref t), none, some (.int a2), some (.int x12), none, some (.int x15)] rfl rfl rfl ?_
        refine im_aload_n 57 96 rfl rfl ?_
        refine im_getR 58 97 rfl fd_L_9 (by decide +kernel) (fun x16 => ?_)
        refine im_iload_n 59 100 rfl rfl ?_
        refine im_iload_n 60 101 rfl rfl ?_
        refine im_cWv (S := []) (fun _ hv => cpS (fr' := 1) (lo' := 20) (i := 61) (As := [.ref x16, .int a2, .int x12]) (S := []) rfl lk_L_79 mw_D_put_a mv_D_put_a rfl rfl rfl rfl (sp_D_put_a G hv)) (fun M2 => ?_)
        refine im_iload 62 105 rfl rfl ?_
        exact im_endZ (fun _ => rfl) (fun hn => wp_zreturn 63 107 (ty := .boolean) rfl hn rfl)
      refine im_ic_eq 52 86 93 rfl (by decide) ?_ ?_
      · refine im_iconst 55 93 rfl rfl ?_
        exact im_less _ (by simp [lv_le]) (hj94 (0 : Int32))
      · refine im_iconst 53 89 rfl rfl ?_
        refine im_goto 54 90 94 rfl (by decide) ?_
        exact im_less _ (by simp [lv_le]) (hj94 (1 : Int32))
    refine im_ic_eq 32 57 69 rfl (by decide) ?_ ?_
    · exact im_less _ (by simp [lv_le]) (hj69 x7)
    · refine im_iload_n 33 60 rfl rfl ?_
      refine im_iconst 34 61 rfl rfl ?_
      refine im_iload 35 62 rfl rfl ?_
      refine im_ishl 36 64 rfl ?_
      refine im_iconst 37 65 rfl rfl ?_
      refine im_ixor 38 66 rfl ?_
      refine im_iand 39 67 rfl ?_
      refine im_letI (fun x17 => ?_)
      refine im_istore_n 40 68 [some (.ref t), some (.ref a1), some (.int a2), some (.int x17), some (.int x9), none] rfl rfl rfl ?_
      exact im_less _ (by simp [lv_le]) (hj69 x17)

theorem sp_L_flow (G : gl_T) {t : Nat} {a1 : Nat} {a2 : Int32} {M : mm_T} {y : Int32 × mm_T} (h : ff_L_flow t a1 a2 M = some y) : sp_S mi_L_flow 4 87 G [.ref t, .ref a1, .int a2] M (sw_i y).1 (sw_i y).2 := sp_of mo_L_flow mw_L_flow (Or.inl (by decide +kernel)) rfl rfl (Or.inl rfl) (ip_L_flow G t a1 a2 M y h)

set_option maxRecDepth 100000 in
set_option maxHeartbeats 4000000 in
theorem li_L_analyse_36 (G : gl_T) (M0 : mm_T) (k0 : Int32 → mm_T → Option (mm_T)) (p0 : Nat) (p1 : Nat) (p3 : Int32) (hk0 : ∀ (z2 : Int32) (N : mm_T), im_I mi_L_analyse 5 112 G M0 sw_v (k0 z2 N) 68 [some (.ref p0), some (.ref p1), some (.int z2), some (.int p3), none] [] N) : ∀ (fu : Nat) (q2 : Int32) (q4 : Int32) (N : mm_T), im_I mi_L_analyse 5 112 G M0 sw_v (lf_L_analyse_36 k0 p0 p1 p3 fu q2 q4 N) 36 [some (.ref p0), some (.ref p1), some (.int q2), some (.int p3), some (.int q4)] [] N := by
  intro fu
  induction fu with
  | zero => intro _ _ _; exact im_none
  | succ fu ih =>
    intro q2 q4 N
    show im_I mi_L_analyse 5 112 G M0 sw_v (lb_L_analyse_36 k0 p0 p1 p3 (lf_L_analyse_36 k0 p0 p1 p3 fu) q2 q4 N) 36 [some (.ref p0), some (.ref p1), some (.int q2), some (.int p3), some (.int q4)] [] N
    unfold lb_L_analyse_36
    refine im_iload 21 36 rfl rfl ?_
    refine im_if_lt 22 38 68 rfl (by decide) ?_ ?_
    · exact im_less _ (by simp [lv_le]) (hk0 q2 N)
    · refine im_aload_n 23 41 rfl rfl ?_
      refine im_iload 24 42 rfl rfl ?_
      refine im_ci (S := []) (fun _ hv => cpV (fr' := 1) (lo' := 20) (i := 25) (As := [.int q4]) (S := []) (a := p1) (c := 7) rfl lk_L_23 mw_P_hasPoint mv_P_hasPoint rfl ⟨by decide, rfl⟩ rfl rfl rfl (gd_some hv).1 (sp_P_hasPoint G hv)) (fun x3 => ?_)
      refine im_jp (fun j62 => ∀ (x4 : Int32) (M3 : mm_T), im_I mi_L_analyse 5 112 G M0 sw_v (j62 x4 M3) 62 [some (.ref p0), some (.ref p1), some (.int x4), some (.int p3), some (.int q4)] [] M3) ?_ (fun j62 hj62 => ?_)
      · intro x4 M3
        show im_I mi_L_analyse 5 112 G M0 sw_v (_) 62 [some (.ref p0), some (.ref p1), some (.int x4), some (.int p3), some (.int q4)] [] M3
        refine im_iincL 34 62 (fun x5 => [some (.ref p0), some (.ref p1), some (.int x4), some (.int p3), some (.int x5)]) rfl rfl rfl rfl (fun _ => rfl) (fun x5 => ?_)
        refine im_goto 35 65 36 rfl (by decide) ?_
        exact im_less _ (by simp [lv_le]) (ih x4 x5 M3)
      refine im_if_eq 26 47 62 rfl (by decide) ?_ ?_
      · exact im_less _ (by simp [lv_le]) (hj62 q2 N)
      · refine im_aload_n 27 50 rfl rfl ?_
        refine im_aload_n 28 51 rfl rfl ?_
        refine im_iload 29 52 rfl rfl ?_
        refine im_cWi (S := []) (fun _ _ hv => cpV (fr' := 4) (lo' := 87) (i := 30) (As := [.ref p1, .int q4]) (S := []) (a := p0) (c := 4) rfl lk_L_29 mw_L_flow mv_L_flow rfl ⟨by decide, rfl⟩ rfl rfl rfl (gd_some hv).1 (sp_L_flow G hv)) (fun x6 M4 => ?_)
        refine im_if_eq 31 57 62 rfl (by decide) ?_ ?_
        · exact im_less _ (by simp [lv_le]) (hj62 q2 M4)
        · refine im_iconst 32 60 rfl rfl ?_
          refine im_istore_n 33 61 [some (.ref p0), some (.ref p1), some (.int (1 : Int32)), some (.int p3), some (.int q4)] rfl rfl rfl ?_
          exact im_less _ (by simp [lv_le]) (hj62 (1 : Int32) M4)

set_option maxRecDepth 100000 in
set_option maxHeartbeats 4000000 in
theorem li_L_analyse_20 (G : gl_T) (M0 : mm_T) (k0 : mm_T → Option (mm_T)) (p0 : Nat) (p1 : Nat) (hk0 : ∀ (N : mm_T), im_I mi_L_analyse 5 112 G M0 sw_v (k0 N) 74 [some (.ref p0), none, none, none, none] [] N) : ∀ (fu : Nat) (q2 : Int32) (q3 : Int32) (N : mm_T), im_I mi_L_analyse 5 112 G M0 sw_v (lf_L_analyse_20 k0 p0 p1 fu q2 q3 N) 20 [some (.ref p0), some (.ref p1), some (.int q2), some (.int q3), none] [] N := by
  intro fu
  induction fu with
  | zero => intro _ _ _; exact im_none
  | succ fu ih =>
    intro q2 q3 N
    show im_I mi_L_analyse 5 112 G M0 sw_v (lb_L_analyse_20 k0 p0 p1 (lf_L_analyse_20 k0 p0 p1 fu) q2 q3 N) 20 [some (.ref p0), some (.ref p1), some (.int q2), some (.int q3), none] [] N
    unfold lb_L_analyse_20
    refine im_iload_n 12 20 rfl rfl ?_
    refine im_if_eq 13 21 74 rfl (by decide) ?_ ?_
    · exact im_less _ (by simp [lv_le]) (hk0 N)
    · refine im_iload_n 14 24 rfl rfl ?_
      refine im_ldcI 15 25 (v := (100000 : Int32)) rfl (tb_m 705 (by decide +kernel) rfl) ?_
      refine im_ic_ge 16 27 74 rfl (by decide) ?_ ?_
      · exact im_less _ (by simp [lv_le]) (hk0 N)
      · refine im_iconst 17 30 rfl rfl ?_
        refine im_istore_n 18 31 [some (.ref p0), some (.ref p1), some (.int (0 : Int32)), some (.int q3), none] rfl rfl rfl ?_
        refine im_bipush 19 32 rfl rfl ?_
        refine im_istore 20 34 [some (.ref p0), some (.ref p1), some (.int (0 : Int32)), some (.int q3), some (.int (51 : Int32))] rfl rfl rfl ?_
        refine im_less [some (.ref p0), some (.ref p1), some (.int (0 : Int32)), some (.int q3), some (.int (51 : Int32))] (by simp [lv_le]) ?_
        refine li_L_analyse_36 G M0 _ p0 p1 q3 ?_ fu_L (0 : Int32) (51 : Int32) N
        · intro x7 M5
          show im_I mi_L_analyse 5 112 G M0 sw_v (_) 68 [some (.ref p0), some (.ref p1), some (.int x7), some (.int q3), none] [] M5
          refine im_iincL 36 68 (fun x8 => [some (.ref p0), some (.ref p1), some (.int x7), some (.int x8), none]) rfl rfl rfl rfl (fun _ => rfl) (fun x8 => ?_)
          refine im_goto 37 71 20 rfl (by decide) ?_
          exact im_less _ (by simp [lv_le]) (ih x7 x8 M5)

set_option maxRecDepth 100000 in
set_option maxHeartbeats 4000000 in
theorem ip_L_analyse (G : gl_T) (t : Nat) (a1 : Nat) (M : mm_T) : im_I mi_L_analyse 5 112 G M sw_v (ff_L_analyse t a1 M) 0 [some (.ref t), some (.ref a1), none, none, none] [] M := by
  unfold ff_L_analyse
  refine im_gd (fun hg => ?_)
  refine im_aload_n 0 0 rfl rfl ?_
  refine im_getR 1 1 rfl fd_L_9 (by decide +kernel) (fun x1 => ?_)
  refine im_iconst 2 4 rfl rfl ?_
  refine im_cWv (S := []) (fun _ hv => cpS (fr' := 1) (lo' := 20) (i := 3) (As := [.ref x1, .int (0 : Int32)]) (S := []) rfl lk_L_18 mw_D_fill_a mv_D_fill_a rfl rfl rfl rfl (sp_D_fill_a G hv)) (fun M1 => ?_)
  refine im_aload_n 4 8 rfl rfl ?_
  refine im_getR 5 9 rfl fd_L_15 (by decide +kernel) (fun x2 => ?_)
  refine im_iconst 6 12 rfl rfl ?_
  refine im_cWv (S := []) (fun _ hv => cpS (fr' := 1) (lo' := 20) (i := 7) (As := [.ref x2, .int (0 : Int32)]) (S := []) rfl lk_L_18 mw_D_fill_a mv_D_fill_a rfl rfl rfl rfl (sp_D_fill_a G hv)) (fun M2 => ?_)
  refine im_iconst 8 16 rfl rfl ?_
  refine im_istore_n 9 17 [some (.ref t), some (.ref a1), some (.int (1 : Int32)), none, none] rfl rfl rfl ?_
  refine im_iconst 10 18 rfl rfl ?_
  refine im_istore_n 11 19 [some (.ref t), some (.ref a1), some (.int (1 : Int32)), some (.int (0 : Int32)), none] rfl rfl rfl ?_
  refine im_less [some (.ref t), some (.ref a1), some (.int (1 : Int32)), some (.int (0 : Int32)), none] (by simp [lv_le]) ?_
  refine li_L_analyse_20 G M _ t a1 ?_ fu_L (1 : Int32) (0 : Int32) M2
  · intro M6
    show im_I mi_L_analyse 5 112 G M sw_v (_) 74 [some (.ref t), none, none, none, none] [] M6
    refine im_aload_n 38 74 rfl rfl ?_
    refine im_iconst 39 75 rfl rfl ?_
    refine im_putZ 40 76 rfl fd_L_33 (Or.inl (by decide +kernel)) (by decide +kernel) (fun M7 => ?_)
    exact im_end rfl (wp_return 41 79 rfl rfl)

theorem sp_L_analyse (G : gl_T) {t : Nat} {a1 : Nat} {M : mm_T} {y : mm_T} (h : ff_L_analyse t a1 M = some y) : sp_S mi_L_analyse 5 112 G [.ref t, .ref a1] M (sw_v y).1 (sw_v y).2 := sp_of mo_L_analyse mw_L_analyse (Or.inl (by decide +kernel)) rfl rfl (Or.inl rfl) (ip_L_analyse G t a1 M y h)

