set_option maxRecDepth 100000 in
set_option maxHeartbeats 4000000 in
theorem li_M_findsConstants_2 (G : gl_T) (M0 : mm_T) (k0 : mm_T → Option (mm_T)) (p0 : Nat) (hk0 : ∀ (N : mm_T), im_I mi_M_findsConstants 21 488 G M0 sw_v (k0 N) 35 [some (.ref p0), none, none] [] N) : ∀ (fu : Nat) (q1 : Int32) (N : mm_T), im_I mi_M_findsConstants 21 488 G M0 sw_v (lf_M_findsConstants_2 k0 p0 fu q1 N) 2 [some (.ref p0), some (.int q1), none] [] N := by
  intro fu
  induction fu with
  | zero => intro _ _; exact im_none
  | succ fu ih =>
    intro q1 N
    show im_I mi_M_findsConstants 21 488 G M0 sw_v (lb_M_findsConstants_2 k0 p0 (lf_M_findsConstants_2 k0 p0 fu) q1 N) 2 [some (.ref p0), some (.int q1), none] [] N
    unfold lb_M_findsConstants_2
    refine im_iload_n 2 2 rfl rfl ?_
    refine im_aload_n 3 3 rfl rfl ?_
    refine im_getR 4 4 rfl fd_M_23 (by decide +kernel) (fun x1 => ?_)
    refine im_arraylength 5 7 rfl (fun x2 => ?_)
    refine im_ic_ge 6 8 35 rfl (by decide) ?_ ?_
    · exact im_less _ (by simp [lv_le]) (hk0 N)
    · refine im_aload_n 7 11 rfl rfl ?_
      refine im_getR 8 12 rfl fd_M_23 (by decide +kernel) (fun x3 => ?_)
      refine im_iload_n 9 15 rfl rfl ?_
      refine im_iload_n 10 16 rfl rfl ?_
      refine im_bipush 11 17 rfl rfl ?_
      refine im_jp (fun j28 => ∀ (x4 : Int32), im_I mi_M_findsConstants 21 488 G M0 sw_v (j28 x4) 28 [some (.ref p0), some (.int q1), none] [.int x4, .int q1, .ref x3] N) ?_ (fun j28 hj28 => ?_)
      · intro x4
        show im_I mi_M_findsConstants 21 488 G M0 sw_v (_) 28 [some (.ref p0), some (.int q1), none] [.int x4, .int q1, .ref x3] N
        refine im_iastore 16 28 rfl (fun M1 => ?_)
        refine im_iincL 17 29 (fun x5 => [some (.ref p0), some (.int x5), none]) rfl rfl rfl rfl (fun _ => rfl) (fun x5 => ?_)
        refine im_goto 18 32 2 rfl (by decide) ?_
        exact im_less _ (by simp [lv_le]) (ih x5 M1)
      refine im_ic_ge 12 19 26 rfl (by decide) ?_ ?_
      · refine im_bipush 15 26 rfl rfl ?_
        exact im_less _ (by simp [lv_le]) (hj28 (-2 : Int32))
      · refine im_iconst 13 22 rfl rfl ?_
        refine im_goto 14 23 28 rfl (by decide) ?_
        exact im_less _ (by simp [lv_le]) (hj28 (0 : Int32))

set_option maxRecDepth 100000 in
set_option maxHeartbeats 4000000 in
theorem li_M_findsConstants_45 (G : gl_T) (M0 : mm_T) (k0 : Int32 → mm_T → Option (mm_T)) (p0 : Nat) (hk0 : ∀ (z1 : Int32) (N : mm_T), im_I mi_M_findsConstants 21 488 G M0 sw_v (k0 z1 N) 77 [some (.ref p0), some (.int z1), none] [] N) : ∀ (fu : Nat) (q1 : Int32) (q2 : Int32) (N : mm_T), im_I mi_M_findsConstants 21 488 G M0 sw_v (lf_M_findsConstants_45 k0 p0 fu q1 q2 N) 45 [some (.ref p0), some (.int q1), some (.int q2)] [] N := by
  intro fu
  induction fu with
  | zero => intro _ _ _; exact im_none
  | succ fu ih =>
    intro q1 q2 N
    show im_I mi_M_findsConstants 21 488 G M0 sw_v (lb_M_findsConstants_45 k0 p0 (lf_M_findsConstants_45 k0 p0 fu) q1 q2 N) 45 [some (.ref p0), some (.int q1), some (.int q2)] [] N
    unfold lb_M_findsConstants_45
    refine im_iload_n 27 45 rfl rfl ?_
    refine im_aload_n 28 46 rfl rfl ?_
    refine im_iconst 29 47 rfl rfl ?_
    refine im_ci (S := [.int q2]) (fun _ hv => cpV (fr' := 1) (lo' := 20) (i := 30) (As := [.int (0 : Int32)]) (S := [.int q2]) (a := p0) (c := 11) rfl lk_M_61 mw_M_get mv_M_get rfl ⟨by decide, rfl⟩ rfl rfl rfl (gd_some hv).1 (sp_M_get G hv)) (fun x6 => ?_)
    refine im_ic_ge 31 51 77 rfl (by decide) ?_ ?_
    · exact im_less _ (by simp [lv_le]) (hk0 q1 N)
    · refine im_aload_n 32 54 rfl rfl ?_
      refine im_iload_n 33 55 rfl rfl ?_
      refine im_iconst 34 56 rfl rfl ?_
      refine im_cWi (S := []) (fun _ _ hv => cpV (fr' := 20) (lo' := 466) (i := 35) (As := [.int q2, .int (-1 : Int32)]) (S := []) (a := p0) (c := 11) rfl lk_M_155 mw_M_isReached mv_M_isReached rfl ⟨by decide, rfl⟩ rfl rfl rfl (gd_some hv).1 (sp_M_isReached G hv)) (fun x7 M3 => ?_)
      refine im_jp (fun j71 => ∀ (x8 : Int32) (M4 : mm_T), im_I mi_M_findsConstants 21 488 G M0 sw_v (j71 x8 M4) 71 [some (.ref p0), some (.int x8), some (.int q2)] [] M4) ?_ (fun j71 hj71 => ?_)
      · intro x8 M4
        show im_I mi_M_findsConstants 21 488 G M0 sw_v (_) 71 [some (.ref p0), some (.int x8), some (.int q2)] [] M4
        refine im_iincL 43 71 (fun x9 => [some (.ref p0), some (.int x8), some (.int x9)]) rfl rfl rfl rfl (fun _ => rfl) (fun x9 => ?_)
        refine im_goto 44 74 45 rfl (by decide) ?_
        exact im_less _ (by simp [lv_le]) (ih x8 x9 M4)
      refine im_if_eq 36 60 71 rfl (by decide) ?_ ?_
      · exact im_less _ (by simp [lv_le]) (hj71 q1 M3)
      · refine im_iload_n 37 63 rfl rfl ?_
        refine im_aload_n 38 64 rfl rfl ?_
        refine im_iload_n 39 65 rfl rfl ?_
        refine im_cWi (S := [.int q1]) (fun _ _ hv => cpV (fr' := 5) (lo' := 109) (i := 40) (As := [.int q2]) (S := [.int q1]) (a := p0) (c := 11) rfl lk_M_193 mw_M_spreads mv_M_spreads rfl ⟨by decide, rfl⟩ rfl rfl rfl (gd_some hv).1 (sp_M_spreads G hv)) (fun x10 M5 => ?_)
        refine im_ior 41 69 rfl ?_
        refine im_letI (fun x11 => ?_)
        refine im_istore_n 42 70 [some (.ref p0), some (.int x11), some (.int q2)] rfl rfl rfl ?_
        exact im_less _ (by simp [lv_le]) (hj71 x11 M5)

set_option maxRecDepth 100000 in
set_option maxHeartbeats 4000000 in
theorem li_M_findsConstants_37 (G : gl_T) (M0 : mm_T) (p0 : Nat) : ∀ (fu : Nat) (q1 : Int32) (N : mm_T), im_I mi_M_findsConstants 21 488 G M0 sw_v (lf_M_findsConstants_37 p0 fu q1 N) 37 [some (.ref p0), some (.int q1), none] [] N := by
  intro fu
  induction fu with
  | zero => intro _ _; exact im_none
  | succ fu ih =>
    intro q1 N
    show im_I mi_M_findsConstants 21 488 G M0 sw_v (lb_M_findsConstants_37 p0 (lf_M_findsConstants_37 p0 fu) q1 N) 37 [some (.ref p0), some (.int q1), none] [] N
    unfold lb_M_findsConstants_37
    refine im_iload_n 21 37 rfl rfl ?_
    refine im_if_eq 22 38 80 rfl (by decide) ?_ ?_
    · exact im_end rfl (wp_return 46 80 rfl rfl)
    · refine im_iconst 23 41 rfl rfl ?_
      refine im_istore_n 24 42 [some (.ref p0), some (.int (0 : Int32)), none] rfl rfl rfl ?_
      refine im_iconst 25 43 rfl rfl ?_
      refine im_istore_n 26 44 [some (.ref p0), some (.int (0 : Int32)), some (.int (0 : Int32))] rfl rfl rfl ?_
      refine im_less [some (.ref p0), some (.int (0 : Int32)), some (.int (0 : Int32))] (by simp [lv_le]) ?_
      refine li_M_findsConstants_45 G M0 _ p0 ?_ fu_L (0 : Int32) (0 : Int32) N
      · intro x12 M6
        show im_I mi_M_findsConstants 21 488 G M0 sw_v (_) 77 [some (.ref p0), some (.int x12), none] [] M6
        refine im_goto 45 77 37 rfl (by decide) ?_
        exact im_less _ (by simp [lv_le]) (ih x12 M6)

set_option maxRecDepth 100000 in
set_option maxHeartbeats 4000000 in
theorem ip_M_findsConstants (G : gl_T) (t : Nat) (M : mm_T) : im_I mi_M_findsConstants 21 488 G M sw_v (ff_M_findsConstants t M) 0 [some (.ref t), none, none] [] M := by
  unfold ff_M_findsConstants
  refine im_gd (fun hg => ?_)
  refine im_iconst 0 0 rfl rfl ?_
  refine im_istore_n 1 1 [some (.ref t), some (.int (0 : Int32)), none] rfl rfl rfl ?_
  refine im_less [some (.ref t), some (.int (0 : Int32)), none] (by simp [lv_le]) ?_
  refine li_M_findsConstants_2 G M _ t ?_ fu_L (0 : Int32) M
  · intro M2
    show im_I mi_M_findsConstants 21 488 G M sw_v (_) 35 [some (.ref t), none, none] [] M2
    refine im_iconst 19 35 rfl rfl ?_
    refine im_istore_n 20 36 [some (.ref t), some (.int (1 : Int32)), none] rfl rfl rfl ?_
    refine im_less [some (.ref t), some (.int (1 : Int32)), none] (by simp [lv_le]) ?_
    exact li_M_findsConstants_37 G M t fu_L (1 : Int32) M2

theorem sp_M_findsConstants (G : gl_T) {t : Nat} {M : mm_T} {y : mm_T} (h : ff_M_findsConstants t M = some y) : sp_S mi_M_findsConstants 21 488 G [.ref t] M (sw_v y).1 (sw_v y).2 := sp_of mo_M_findsConstants mw_M_findsConstants (Or.inl (by decide +kernel)) rfl rfl (Or.inl rfl) (ip_M_findsConstants G t M y h)

set_option maxRecDepth 100000 in
set_option maxHeartbeats 4000000 in
theorem ip_M_constantAtPlace (G : gl_T) (t : Nat) (a1 : Int32) (a2 : Int32) (a3 : Int32) (M : mm_T) : im_I mi_M_constantAtPlace 22 510 G M sw_i (ff_M_constantAtPlace t a1 a2 a3 M) 0 [some (.ref t), some (.int a1), some (.int a2), some (.int a3)] [] M := by
  unfold ff_M_constantAtPlace
  refine im_gd (fun hg => ?_)
  refine im_aload_n 0 0 rfl rfl ?_
  refine im_iload_n 1 1 rfl rfl ?_
  refine im_iconst 2 2 rfl rfl ?_
  refine im_cWi (S := []) (fun _ _ hv => cpV (fr' := 20) (lo' := 466) (i := 3) (As := [.int a1, .int (-1 : Int32)]) (S := []) (a := t) (c := 11) rfl lk_M_155 mw_M_isReached mv_M_isReached rfl ⟨by decide, rfl⟩ rfl rfl rfl (gd_some hv).1 (sp_M_isReached G hv)) (fun x1 M1 => ?_)
  refine im_if_ne 4 6 11 rfl (by decide) ?_ ?_
  · refine im_aload_n 7 11 rfl rfl ?_
    refine im_cWv (S := []) (fun _ hv => cpV (fr' := 21) (lo' := 488) (i := 8) (As := []) (S := []) (a := t) (c := 11) rfl lk_M_196 mw_M_findsConstants mv_M_findsConstants rfl ⟨by decide, rfl⟩ rfl rfl rfl (gd_some hv).1 (sp_M_findsConstants G hv)) (fun M2 => ?_)
    refine im_aload_n 9 15 rfl rfl ?_
    refine im_iload_n 10 16 rfl rfl ?_
    refine im_iload_n 11 17 rfl rfl ?_
    refine im_cWv (S := []) (fun _ hv => cpV (fr' := 4) (lo' := 86) (i := 12) (As := [.int a1, .int a2]) (S := []) (a := t) (c := 11) rfl lk_M_187 mw_M_comesTo mv_M_comesTo rfl ⟨by decide, rfl⟩ rfl rfl rfl (gd_some hv).1 (sp_M_comesTo G hv)) (fun M3 => ?_)
    refine im_iconst 13 21 rfl rfl ?_
    refine im_aload_n 14 22 rfl rfl ?_
    refine im_getR 15 23 rfl fd_M_26 (by decide +kernel) (fun x2 => ?_)
    refine im_iload_n 16 26 rfl rfl ?_
    refine im_iaload 17 27 rfl (fun x3 => ?_)
    refine im_ci (S := []) (fun _ hv => cpS (fr' := 1) (lo' := 20) (i := 18) (As := [.int (-1 : Int32), .int x3]) (S := []) rfl lk_M_199 mw_JM_max mv_JM_max rfl rfl rfl rfl (sp_JM_max G hv)) (fun x4 => ?_)
    exact im_end rfl (wp_ireturn 19 31 rfl rfl)
  · refine im_iconst 5 9 rfl rfl ?_
    exact im_end rfl (wp_ireturn 6 10 rfl rfl)

theorem sp_M_constantAtPlace (G : gl_T) {t : Nat} {a1 : Int32} {a2 : Int32} {a3 : Int32} {M : mm_T} {y : Int32 × mm_T} (h : ff_M_constantAtPlace t a1 a2 a3 M = some y) : sp_S mi_M_constantAtPlace 22 510 G [.ref t, .int a1, .int a2, .int a3] M (sw_i y).1 (sw_i y).2 := sp_of mo_M_constantAtPlace mw_M_constantAtPlace (Or.inl (by decide +kernel)) rfl rfl (Or.inl rfl) (ip_M_constantAtPlace G t a1 a2 a3 M y h)

set_option maxRecDepth 100000 in
set_option maxHeartbeats 4000000 in
theorem li_M_begins_2 (G : gl_T) (M0 : mm_T) (k0 : mm_T → Option (mm_T)) (p0 : Nat) (hk0 : ∀ (N : mm_T), im_I mi_M_begins 4 86 G M0 sw_v (k0 N) 21 [some (.ref p0), none] [] N) : ∀ (fu : Nat) (q1 : Int32) (N : mm_T), im_I mi_M_begins 4 86 G M0 sw_v (lf_M_begins_2 k0 p0 fu q1 N) 2 [some (.ref p0), some (.int q1)] [] N := by
  intro fu
  induction fu with
  | zero => intro _ _; exact im_none
  | succ fu ih =>
    intro q1 N
    show im_I mi_M_begins 4 86 G M0 sw_v (lb_M_begins_2 k0 p0 (lf_M_begins_2 k0 p0 fu) q1 N) 2 [some (.ref p0), some (.int q1)] [] N
    unfold lb_M_begins_2
    refine im_iload_n 2 2 rfl rfl ?_
    refine im_bipush 3 3 rfl rfl ?_
    refine im_ic_ge 4 5 21 rfl (by decide) ?_ ?_
    · exact im_less _ (by simp [lv_le]) (hk0 N)
    · refine im_aload_n 5 8 rfl rfl ?_
      refine im_getR 6 9 rfl fd_M_29 (by decide +kernel) (fun x1 => ?_)
      refine im_iload_n 7 12 rfl rfl ?_
      refine im_iconst 8 13 rfl rfl ?_
      refine im_iastore 9 14 rfl (fun M1 => ?_)
      refine im_iincL 10 15 (fun x2 => [some (.ref p0), some (.int x2)]) rfl rfl rfl rfl (fun _ => rfl) (fun x2 => ?_)
      refine im_goto 11 18 2 rfl (by decide) ?_
      exact im_less _ (by simp [lv_le]) (ih x2 M1)

set_option maxRecDepth 100000 in
set_option maxHeartbeats 4000000 in
theorem ip_M_begins (G : gl_T) (t : Nat) (M : mm_T) : im_I mi_M_begins 4 86 G M sw_v (ff_M_begins t M) 0 [some (.ref t), none] [] M := by
  unfold ff_M_begins
  refine im_gd (fun hg => ?_)
  refine im_iconst 0 0 rfl rfl ?_
  refine im_istore_n 1 1 [some (.ref t), some (.int (0 : Int32))] rfl rfl rfl ?_
  refine im_less [some (.ref t), some (.int (0 : Int32))] (by simp [lv_le]) ?_
  refine li_M_begins_2 G M _ t ?_ fu_L (0 : Int32) M
  · intro M2
    show im_I mi_M_begins 4 86 G M sw_v (_) 21 [some (.ref t), none] [] M2
    refine im_aload_n 12 21 rfl rfl ?_
    refine im_iconst 13 22 rfl rfl ?_
    refine im_putI 14 23 rfl fd_M_204 (Or.inl (by decide +kernel)) (by decide +kernel) (fun M3 => ?_)
    refine im_aload_n 15 26 rfl rfl ?_
    refine im_aload_n 16 27 rfl rfl ?_
    refine im_iconst 17 28 rfl rfl ?_
    refine im_ci (S := [.ref t]) (fun _ hv => cpV (fr' := 3) (lo' := 63) (i := 18) (As := [.int (0 : Int32)]) (S := [.ref t]) (a := t) (c := 11) rfl lk_M_84 mw_M_firstOf mv_M_firstOf rfl ⟨by decide, rfl⟩ rfl rfl rfl (gd_some hv).1 (sp_M_firstOf G hv)) (fun x3 => ?_)
    refine im_putI 19 32 rfl fd_M_207 (Or.inl (by decide +kernel)) (by decide +kernel) (fun M4 => ?_)
    refine im_aload_n 20 35 rfl rfl ?_
    refine im_iconst 21 36 rfl rfl ?_
    refine im_putI 22 37 rfl fd_M_210 (Or.inl (by decide +kernel)) (by decide +kernel) (fun M5 => ?_)
    refine im_aload_n 23 40 rfl rfl ?_
    refine im_iconst 24 41 rfl rfl ?_
    refine im_putZ 25 42 rfl fd_M_213 (Or.inl (by decide +kernel)) (by decide +kernel) (fun M6 => ?_)
    exact im_end rfl (wp_return 26 45 rfl rfl)

theorem sp_M_begins (G : gl_T) {t : Nat} {M : mm_T} {y : mm_T} (h : ff_M_begins t M = some y) : sp_S mi_M_begins 4 86 G [.ref t] M (sw_v y).1 (sw_v y).2 := sp_of mo_M_begins mw_M_begins (Or.inl (by decide +kernel)) rfl rfl (Or.inl rfl) (ip_M_begins G t M y h)

set_option maxRecDepth 100000 in
set_option maxHeartbeats 4000000 in
theorem ip_M_enters (G : gl_T) (t : Nat) (a1 : Int32) (M : mm_T) : im_I mi_M_enters 4 86 G M sw_v (ff_M_enters t a1 M) 0 [some (.ref t), some (.int a1)] [] M := by
  unfold ff_M_enters
  refine im_gd (fun hg => ?_)
  refine im_aload_n 0 0 rfl rfl ?_
  refine im_iload_n 1 1 rfl rfl ?_
  refine im_putI 2 2 rfl fd_M_204 (Or.inl (by decide +kernel)) (by decide +kernel) (fun M1 => ?_)
  refine im_aload_n 3 5 rfl rfl ?_
  refine im_aload_n 4 6 rfl rfl ?_
  refine im_iload_n 5 7 rfl rfl ?_
  refine im_ci (S := [.ref t]) (fun _ hv => cpV (fr' := 3) (lo' := 63) (i := 6) (As := [.int a1]) (S := [.ref t]) (a := t) (c := 11) rfl lk_M_84 mw_M_firstOf mv_M_firstOf rfl ⟨by decide, rfl⟩ rfl rfl rfl (gd_some hv).1 (sp_M_firstOf G hv)) (fun x1 => ?_)
  refine im_putI 7 11 rfl fd_M_207 (Or.inl (by decide +kernel)) (by decide +kernel) (fun M2 => ?_)
  exact im_end rfl (wp_return 8 14 rfl rfl)

theorem sp_M_enters (G : gl_T) {t : Nat} {a1 : Int32} {M : mm_T} {y : mm_T} (h : ff_M_enters t a1 M = some y) : sp_S mi_M_enters 4 86 G [.ref t, .int a1] M (sw_v y).1 (sw_v y).2 := sp_of mo_M_enters mw_M_enters (Or.inl (by decide +kernel)) rfl rfl (Or.inl rfl) (ip_M_enters G t a1 M y h)

set_option maxRecDepth 100000 in
set_option maxHeartbeats 4000000 in
theorem ip_M_steps (G : gl_T) (t : Nat) (M : mm_T) : im_I mi_M_steps 5 107 G M sw_v (ff_M_steps t M) 0 [some (.ref t), none] [] M := by
  unfold ff_M_steps
  refine im_gd (fun hg => ?_)
  refine im_aload_n 0 0 rfl rfl ?_
  refine im_getI 1 1 rfl fd_M_207 (by decide +kernel) (fun x1 => ?_)
  refine im_aload_n 2 4 rfl rfl ?_
  refine im_aload_n 3 5 rfl rfl ?_
  refine im_getI 4 6 rfl fd_M_204 (by decide +kernel) (fun x2 => ?_)
  refine im_ci (S := [.int x1]) (fun _ hv => cpV (fr' := 4) (lo' := 86) (i := 5) (As := [.int x2]) (S := [.int x1]) (a := t) (c := 11) rfl lk_M_87 mw_M_endOf mv_M_endOf rfl ⟨by decide, rfl⟩ rfl rfl rfl (gd_some hv).1 (sp_M_endOf G hv)) (fun x3 => ?_)
  refine im_ic_ne 6 12 99 rfl (by decide) ?_ ?_
  · refine im_aload_n 53 99 rfl rfl ?_
    refine im_getI 54 100 rfl fd_M_207 (by decide +kernel) (fun x4 => ?_)
    refine im_istore_n 55 103 [some (.ref t), some (.int x4)] rfl rfl rfl ?_
    refine im_aload_n 56 104 rfl rfl ?_
    refine im_iload_n 57 105 rfl rfl ?_
    refine im_iconst 58 106 rfl rfl ?_
    refine im_ci (S := []) (fun _ hv => cpV (fr' := 2) (lo' := 41) (i := 59) (As := [.int x4, .int (0 : Int32)]) (S := []) (a := t) (c := 11) rfl lk_M_96 mw_M_it mv_M_it rfl ⟨by decide, rfl⟩ rfl rfl rfl (gd_some hv).1 (sp_M_it G hv)) (fun x5 => ?_)
    refine im_iconst 60 110 rfl rfl ?_
    refine im_jp (fun j239 => ∀  (M1 : mm_T), im_I mi_M_steps 5 107 G M sw_v (j239 M1) 239 [some (.ref t), none] [] M1) ?_ (fun j239 hj239 => ?_)
    · intro M1
      show im_I mi_M_steps 5 107 G M sw_v (_) 239 [some (.ref t), none] [] M1
      refine im_aload_n 137 239 rfl rfl ?_
      refine im_dup 138 240 rfl rfl ?_
      refine im_getI 139 241 rfl fd_M_207 (by decide +kernel) (fun x6 => ?_)
      refine im_iconst 140 244 rfl rfl ?_
      refine im_iadd 141 245 rfl ?_
      refine im_putI 142 246 rfl fd_M_207 (Or.inl (by decide +kernel)) (by decide +kernel) (fun M2 => ?_)
      exact im_end rfl (wp_return 143 249 rfl rfl)
    refine im_ic_ne 61 111 132 rfl (by decide) ?_ ?_
    · refine im_aload_n 72 132 rfl rfl ?_
      refine im_iload_n 73 133 rfl rfl ?_
      refine im_iconst 74 134 rfl rfl ?_
      refine im_ci (S := []) (fun _ hv => cpV (fr' := 2) (lo' := 41) (i := 75) (As := [.int x4, .int (0 : Int32)]) (S := []) (a := t) (c := 11) rfl lk_M_96 mw_M_it mv_M_it rfl ⟨by decide, rfl⟩ rfl rfl rfl (gd_some hv).1 (sp_M_it G hv)) (fun x7 => ?_)
      refine im_if_ne 76 138 161 rfl (by decide) ?_ ?_
      · refine im_aload_n 89 161 rfl rfl ?_
        refine im_iload_n 90 162 rfl rfl ?_
        refine im_iconst 91 163 rfl rfl ?_
        refine im_ci (S := []) (fun _ hv => cpV (fr' := 2) (lo' := 41) (i := 92) (As := [.int x4, .int (0 : Int32)]) (S := []) (a := t) (c := 11) rfl lk_M_96 mw_M_it mv_M_it rfl ⟨by decide, rfl⟩ rfl rfl rfl (gd_some hv).1 (sp_M_it G hv)) (fun x8 => ?_)
        refine im_iconst 93 167 rfl rfl ?_
        refine im_ic_ne 94 168 196 rfl (by decide) ?_ ?_
        · refine im_aload_n 110 196 rfl rfl ?_
          refine im_getR 111 197 rfl fd_M_29 (by decide +kernel) (fun x9 => ?_)
          refine im_aload_n 112 200 rfl rfl ?_
          refine im_iload_n 113 201 rfl rfl ?_
          refine im_iconst 114 202 rfl rfl ?_
          refine im_ci (S := [.ref x9]) (fun _ hv => cpV (fr' := 2) (lo' := 41) (i := 115) (As := [.int x4, .int (1 : Int32)]) (S := [.ref x9]) (a := t) (c := 11) rfl lk_M_96 mw_M_it mv_M_it rfl ⟨by decide, rfl⟩ rfl rfl rfl (gd_some hv).1 (sp_M_it G hv)) (fun x10 => ?_)
          refine im_aload_n 116 206 rfl rfl ?_
          refine im_aload_n 117 207 rfl rfl ?_
          refine im_getR 118 208 rfl fd_M_29 (by decide +kernel) (fun x11 => ?_)
          refine im_aload_n 119 211 rfl rfl ?_
          refine im_iload_n 120 212 rfl rfl ?_
          refine im_iconst 121 213 rfl rfl ?_
          refine im_ci (S := [.ref x11, .ref t, .int x10, .ref x9]) (fun _ hv => cpV (fr' := 2) (lo' := 41) (i := 122) (As := [.int x4, .int (2 : Int32)]) (S := [.ref x11, .ref t, .int x10, .ref x9]) (a := t) (c := 11) rfl lk_M_96 mw_M_it mv_M_it rfl ⟨by decide, rfl⟩ rfl rfl rfl (gd_some hv).1 (sp_M_it G hv)) (fun x12 => ?_)
          refine im_iaload 123 217 rfl (fun x13 => ?_)
          refine im_aload_n 124 218 rfl rfl ?_
          refine im_iload_n 125 219 rfl rfl ?_
          refine im_iconst 126 220 rfl rfl ?_
          refine im_ci (S := [.int x13, .ref t, .int x10, .ref x9]) (fun _ hv => cpV (fr' := 2) (lo' := 41) (i := 127) (As := [.int x4, .int (3 : Int32)]) (S := [.int x13, .ref t, .int x10, .ref x9]) (a := t) (c := 11) rfl lk_M_96 mw_M_it mv_M_it rfl ⟨by decide, rfl⟩ rfl rfl rfl (gd_some hv).1 (sp_M_it G hv)) (fun x14 => ?_)
          refine im_aload_n 128 224 rfl rfl ?_
          refine im_getR 129 225 rfl fd_M_29 (by decide +kernel) (fun x15 => ?_)
          refine im_aload_n 130 228 rfl rfl ?_
          refine im_iload_n 131 229 rfl rfl ?_
          refine im_iconst 132 230 rfl rfl ?_
          refine im_ci (S := [.ref x15, .int x14, .int x13, .ref t, .int x10, .ref x9]) (fun _ hv => cpV (fr' := 2) (lo' := 41) (i := 133) (As := [.int x4, .int (4 : Int32)]) (S := [.ref x15, .int x14, .int x13, .ref t, .int x10, .ref x9]) (a := t) (c := 11) rfl lk_M_96 mw_M_it mv_M_it rfl ⟨by decide, rfl⟩ rfl rfl rfl (gd_some hv).1 (sp_M_it G hv)) (fun x16 => ?_)
          refine im_iaload 134 234 rfl (fun x17 => ?_)
          refine im_ci (S := [.int x10, .ref x9]) (fun _ hv => cpV (fr' := 1) (lo' := 20) (i := 135) (As := [.int x13, .int x14, .int x17]) (S := [.int x10, .ref x9]) (a := t) (c := 11) rfl lk_M_181 mw_M_calculates mv_M_calculates rfl ⟨by decide, rfl⟩ rfl rfl rfl (gd_some hv).1 (sp_M_calculates G hv)) (fun x18 => ?_)
          refine im_iastore 136 238 rfl (fun M3 => ?_)
          exact im_less _ (by simp [lv_le]) (hj239 M3)
        · refine im_aload_n 95 171 rfl rfl ?_
          refine im_getR 96 172 rfl fd_M_29 (by decide +kernel) (fun x19 => ?_)
          refine im_aload_n 97 175 rfl rfl ?_
          refine im_iload_n 98 176 rfl rfl ?_
          refine im_iconst 99 177 rfl rfl ?_
          refine im_ci (S := [.ref x19]) (fun _ hv => cpV (fr' := 2) (lo' := 41) (i := 100) (As := [.int x4, .int (1 : Int32)]) (S := [.ref x19]) (a := t) (c := 11) rfl lk_M_96 mw_M_it mv_M_it rfl ⟨by decide, rfl⟩ rfl rfl rfl (gd_some hv).1 (sp_M_it G hv)) (fun x20 => ?_)
          refine im_aload_n 101 181 rfl rfl ?_
          refine im_getR 102 182 rfl fd_M_29 (by decide +kernel) (fun x21 => ?_)
          refine im_aload_n 103 185 rfl rfl ?_
          refine im_iload_n 104 186 rfl rfl ?_
          refine im_iconst 105 187 rfl rfl ?_
          refine im_ci (S := [.ref x21, .int x20, .ref x19]) (fun _ hv => cpV (fr' := 2) (lo' := 41) (i := 106) (As := [.int x4, .int (2 : Int32)]) (S := [.ref x21, .int x20, .ref x19]) (a := t) (c := 11) rfl lk_M_96 mw_M_it mv_M_it rfl ⟨by decide, rfl⟩ rfl rfl rfl (gd_some hv).1 (sp_M_it G hv)) (fun x22 => ?_)
          refine im_iaload 107 191 rfl (fun x23 => ?_)
          refine im_iastore 108 192 rfl (fun M4 => ?_)
          refine im_goto 109 193 239 rfl (by decide) ?_
          exact im_less _ (by simp [lv_le]) (hj239 M4)
      · refine im_aload_n 77 141 rfl rfl ?_
        refine im_getR 78 142 rfl fd_M_29 (by decide +kernel) (fun x24 => ?_)
        refine im_aload_n 79 145 rfl rfl ?_
        refine im_iload_n 80 146 rfl rfl ?_
        refine im_iconst 81 147 rfl rfl ?_
        refine im_ci (S := [.ref x24]) (fun _ hv => cpV (fr' := 2) (lo' := 41) (i := 82) (As := [.int x4, .int (1 : Int32)]) (S := [.ref x24]) (a := t) (c := 11) rfl lk_M_96 mw_M_it mv_M_it rfl ⟨by decide, rfl⟩ rfl rfl rfl (gd_some hv).1 (sp_M_it G hv)) (fun x25 => ?_)
        refine im_aload_n 83 151 rfl rfl ?_
        refine im_iload_n 84 152 rfl rfl ?_
        refine im_iconst 85 153 rfl rfl ?_
        refine im_ci (S := [.int x25, .ref x24]) (fun _ hv => cpV (fr' := 2) (lo' := 41) (i := 86) (As := [.int x4, .int (2 : Int32)]) (S := [.int x25, .ref x24]) (a := t) (c := 11) rfl lk_M_96 mw_M_it mv_M_it rfl ⟨by decide, rfl⟩ rfl rfl rfl (gd_some hv).1 (sp_M_it G hv)) (fun x26 => ?_)
        refine im_iastore 87 157 rfl (fun M5 => ?_)
        refine im_goto 88 158 239 rfl (by decide) ?_
        exact im_less _ (by simp [lv_le]) (hj239 M5)
    · refine im_aload_n 62 114 rfl rfl ?_
      refine im_aload_n 63 115 rfl rfl ?_
      refine im_getR 64 116 rfl fd_M_29 (by decide +kernel) (fun x27 => ?_)
      refine im_aload_n 65 119 rfl rfl ?_
      refine im_iload_n 66 120 rfl rfl ?_
      refine im_iconst 67 121 rfl rfl ?_
      refine im_ci (S := [.ref x27, .ref t]) (fun _ hv => cpV (fr' := 2) (lo' := 41) (i := 68) (As := [.int x4, .int (2 : Int32)]) (S := [.ref x27, .ref t]) (a := t) (c := 11) rfl lk_M_96 mw_M_it mv_M_it rfl ⟨by decide, rfl⟩ rfl rfl rfl (gd_some hv).1 (sp_M_it G hv)) (fun x28 => ?_)
      refine im_iaload 69 125 rfl (fun x29 => ?_)
      refine im_putI 70 126 rfl fd_M_210 (Or.inl (by decide +kernel)) (by decide +kernel) (fun M6 => ?_)
      refine im_goto 71 129 239 rfl (by decide) ?_
      exact im_less _ (by simp [lv_le]) (hj239 M6)
  · refine im_aload_n 7 15 rfl rfl ?_
    refine im_aload_n 8 16 rfl rfl ?_
    refine im_getI 9 17 rfl fd_M_204 (by decide +kernel) (fun x30 => ?_)
    refine im_iconst 10 20 rfl rfl ?_
    refine im_ci (S := []) (fun _ hv => cpV (fr' := 2) (lo' := 41) (i := 11) (As := [.int x30, .int (1 : Int32)]) (S := []) (a := t) (c := 11) rfl lk_M_80 mw_M_bl mv_M_bl rfl ⟨by decide, rfl⟩ rfl rfl rfl (gd_some hv).1 (sp_M_bl G hv)) (fun x31 => ?_)
    refine im_istore_n 12 24 [some (.ref t), some (.int x31)] rfl rfl rfl ?_
    refine im_aload_n 13 25 rfl rfl ?_
    refine im_iload_n 14 26 rfl rfl ?_
    refine im_jp (fun j35 => ∀ (x32 : Int32), im_I mi_M_steps 5 107 G M sw_v (j35 x32) 35 [some (.ref t), some (.int x31)] [.int x32, .ref t] M) ?_ (fun j35 hj35 => ?_)
    · intro x32
      show im_I mi_M_steps 5 107 G M sw_v (_) 35 [some (.ref t), some (.int x31)] [.int x32, .ref t] M
      refine im_putZ 19 35 rfl fd_M_213 (Or.inl (by decide +kernel)) (by decide +kernel) (fun M7 => ?_)
      refine im_iload_n 20 38 rfl rfl ?_
      refine im_iconst 21 39 rfl rfl ?_
      refine im_ic_ne 22 40 59 rfl (by decide) ?_ ?_
      · refine im_iload_n 31 59 rfl rfl ?_
        refine im_iconst 32 60 rfl rfl ?_
        refine im_ic_ne 33 61 98 rfl (by decide) ?_ ?_
        · exact im_end rfl (wp_return 52 98 rfl rfl)
        · refine im_aload_n 34 64 rfl rfl ?_
          refine im_aload_n 35 65 rfl rfl ?_
          refine im_aload_n 36 66 rfl rfl ?_
          refine im_getI 37 67 rfl fd_M_204 (by decide +kernel) (fun x33 => ?_)
          refine im_aload_n 38 70 rfl rfl ?_
          refine im_getR 39 71 rfl fd_M_29 (by decide +kernel) (fun x34 => ?_)
          refine im_aload_n 40 74 rfl rfl ?_
          refine im_aload_n 41 75 rfl rfl ?_
          refine im_getI 42 76 rfl fd_M_204 (by decide +kernel) (fun x35 => ?_)
          refine im_iconst 43 79 rfl rfl ?_
          refine im_ci (S := [.ref x34, .int x33, .ref t, .ref t]) (fun _ hv => cpV (fr' := 2) (lo' := 41) (i := 44) (As := [.int x35, .int (2 : Int32)]) (S := [.ref x34, .int x33, .ref t, .ref t]) (a := t) (c := 11) rfl lk_M_80 mw_M_bl mv_M_bl rfl ⟨by decide, rfl⟩ rfl rfl rfl (gd_some hv).1 (sp_M_bl G hv)) (fun x36 => ?_)
          refine im_iaload 45 83 rfl (fun x37 => ?_)
          refine im_jp (fun j92 => ∀ (x38 : Int32), im_I mi_M_steps 5 107 G M sw_v (j92 x38) 92 [none, none] [.int x38, .int x33, .ref t, .ref t] M7) ?_ (fun j92 hj92 => ?_)
          · intro x38
            show im_I mi_M_steps 5 107 G M sw_v (_) 92 [none, none] [.int x38, .int x33, .ref t, .ref t] M7
            refine im_ci (S := [.ref t]) (fun _ hv => cpV (fr' := 3) (lo' := 63) (i := 50) (As := [.int x33, .int x38]) (S := [.ref t]) (a := t) (c := 11) rfl lk_M_93 mw_M_way mv_M_way rfl ⟨by decide, rfl⟩ rfl rfl rfl (gd_some hv).1 (sp_M_way G hv)) (fun x39 => ?_)
            refine im_cWv (S := []) (fun _ hv => cpV (fr' := 4) (lo' := 86) (i := 51) (As := [.int x39]) (S := []) (a := t) (c := 11) rfl lk_M_217 mw_M_enters mv_M_enters rfl ⟨by decide, rfl⟩ rfl rfl rfl (gd_some hv).1 (sp_M_enters G hv)) (fun M8 => ?_)
            exact im_end rfl (wp_return 52 98 rfl rfl)
          refine im_if_eq 46 84 91 rfl (by decide) ?_ ?_
          · refine im_iconst 49 91 rfl rfl ?_
            exact im_less _ (by simp [lv_le]) (hj92 (1 : Int32))
          · refine im_iconst 47 87 rfl rfl ?_
            refine im_goto 48 88 92 rfl (by decide) ?_
            exact im_less _ (by simp [lv_le]) (hj92 (0 : Int32))
      · refine im_aload_n 23 43 rfl rfl ?_
        refine im_aload_n 24 44 rfl rfl ?_
        refine im_aload_n 25 45 rfl rfl ?_
        refine im_getI 26 46 rfl fd_M_204 (by decide +kernel) (fun x40 => ?_)
        refine im_iconst 27 49 rfl rfl ?_
        refine im_ci (S := [.ref t]) (fun _ hv => cpV (fr' := 2) (lo' := 41) (i := 28) (As := [.int x40, .int (3 : Int32)]) (S := [.ref t]) (a := t) (c := 11) rfl lk_M_80 mw_M_bl mv_M_bl rfl ⟨by decide, rfl⟩ rfl rfl rfl (gd_some hv).1 (sp_M_bl G hv)) (fun x41 => ?_)
        refine im_cWv (S := []) (fun _ hv => cpV (fr' := 4) (lo' := 86) (i := 29) (As := [.int x41]) (S := []) (a := t) (c := 11) rfl lk_M_217 mw_M_enters mv_M_enters rfl ⟨by decide, rfl⟩ rfl rfl rfl (gd_some hv).1 (sp_M_enters G hv)) (fun M9 => ?_)
        refine im_goto 30 56 98 rfl (by decide) ?_
        exact im_end rfl (wp_return 52 98 rfl rfl)
    refine im_if_ne 15 27 34 rfl (by decide) ?_ ?_
    · refine im_iconst 18 34 rfl rfl ?_
      exact im_less _ (by simp [lv_le]) (hj35 (0 : Int32))
    · refine im_iconst 16 30 rfl rfl ?_
      refine im_goto 17 31 35 rfl (by decide) ?_
      exact im_less _ (by simp [lv_le]) (hj35 (1 : Int32))

theorem sp_M_steps (G : gl_T) {t : Nat} {M : mm_T} {y : mm_T} (h : ff_M_steps t M = some y) : sp_S mi_M_steps 5 107 G [.ref t] M (sw_v y).1 (sw_v y).2 := sp_of mo_M_steps mw_M_steps (Or.inl (by decide +kernel)) rfl rfl (Or.inl rfl) (ip_M_steps G t M y h)

set_option maxRecDepth 100000 in
set_option maxHeartbeats 4000000 in
theorem li_M_runs_6 (G : gl_T) (M0 : mm_T) (p0 : Nat) (p1 : Int32) : ∀ (fu : Nat) (q2 : Int32) (N : mm_T), im_I mi_M_runs 6 128 G M0 sw_i (lf_M_runs_6 p0 p1 fu q2 N) 6 [some (.ref p0), some (.int p1), some (.int q2)] [] N := by
  intro fu
  induction fu with
  | zero => intro _ _; exact im_none
  | succ fu ih =>
    intro q2 N
    show im_I mi_M_runs 6 128 G M0 sw_i (lb_M_runs_6 p0 p1 (lf_M_runs_6 p0 p1 fu) q2 N) 6 [some (.ref p0), some (.int p1), some (.int q2)] [] N
    unfold lb_M_runs_6
    refine im_iload_n 4 6 rfl rfl ?_
    refine im_iload_n 5 7 rfl rfl ?_
    refine im_ic_ge 6 8 28 rfl (by decide) ?_ ?_
    · refine im_iload_n 14 28 rfl rfl ?_
      exact im_end rfl (wp_ireturn 15 29 rfl rfl)
    · refine im_aload_n 7 11 rfl rfl ?_
      refine im_getI 8 12 rfl fd_M_213 (by decide +kernel) (fun x1 => ?_)
      refine im_if_ne 9 15 28 rfl (by decide) ?_ ?_
      · refine im_iload_n 14 28 rfl rfl ?_
        exact im_end rfl (wp_ireturn 15 29 rfl rfl)
      · refine im_aload_n 10 18 rfl rfl ?_
        refine im_cWv (S := []) (fun _ hv => cpV (fr' := 5) (lo' := 107) (i := 11) (As := []) (S := []) (a := p0) (c := 11) rfl lk_M_223 mw_M_steps mv_M_steps rfl ⟨by decide, rfl⟩ rfl rfl rfl (gd_some hv).1 (sp_M_steps G hv)) (fun M2 => ?_)
        refine im_iincL 12 22 (fun x2 => [some (.ref p0), some (.int p1), some (.int x2)]) rfl rfl rfl rfl (fun _ => rfl) (fun x2 => ?_)
        refine im_goto 13 25 6 rfl (by decide) ?_
        exact im_less _ (by simp [lv_le]) (ih x2 M2)

set_option maxRecDepth 100000 in
set_option maxHeartbeats 4000000 in
theorem ip_M_runs (G : gl_T) (t : Nat) (a1 : Int32) (M : mm_T) : im_I mi_M_runs 6 128 G M sw_i (ff_M_runs t a1 M) 0 [some (.ref t), some (.int a1), none] [] M := by
  unfold ff_M_runs
  refine im_gd (fun hg => ?_)
  refine im_aload_n 0 0 rfl rfl ?_
  refine im_cWv (S := []) (fun _ hv => cpV (fr' := 4) (lo' := 86) (i := 1) (As := []) (S := []) (a := t) (c := 11) rfl lk_M_220 mw_M_begins mv_M_begins rfl ⟨by decide, rfl⟩ rfl rfl rfl (gd_some hv).1 (sp_M_begins G hv)) (fun M1 => ?_)
  refine im_iconst 2 4 rfl rfl ?_
  refine im_istore_n 3 5 [some (.ref t), some (.int a1), some (.int (0 : Int32))] rfl rfl rfl ?_
  refine im_less [some (.ref t), some (.int a1), some (.int (0 : Int32))] (by simp [lv_le]) ?_
  exact li_M_runs_6 G M t a1 fu_L (0 : Int32) M1

theorem sp_M_runs (G : gl_T) {t : Nat} {a1 : Int32} {M : mm_T} {y : Int32 × mm_T} (h : ff_M_runs t a1 M = some y) : sp_S mi_M_runs 6 128 G [.ref t, .int a1] M (sw_i y).1 (sw_i y).2 := sp_of mo_M_runs mw_M_runs (Or.inl (by decide +kernel)) rfl rfl (Or.inl rfl) (ip_M_runs G t a1 M y h)

set_option maxRecDepth 100000 in
set_option maxHeartbeats 4000000 in
theorem li_M_appendText_27 (G : gl_T) (M0 : mm_T) (k0 : mm_T → Option (Int32 × mm_T)) (p0 : Nat) (p1 : Int32) (hk0 : ∀ (N : mm_T), im_I mi_M_appendText 1 20 G M0 sw_i (k0 N) 63 [some (.ref p0), none, none] [] N) : ∀ (fu : Nat) (q2 : Int32) (N : mm_T), im_I mi_M_appendText 1 20 G M0 sw_i (lf_M_appendText_27 k0 p0 p1 fu q2 N) 27 [some (.ref p0), some (.int p1), some (.int q2)] [] N := by
  intro fu
  induction fu with
  | zero => intro _ _; exact im_none
  | succ fu ih =>
    intro q2 N
    show im_I mi_M_appendText 1 20 G M0 sw_i (lb_M_appendText_27 k0 p0 p1 (lf_M_appendText_27 k0 p0 p1 fu) q2 N) 27 [some (.ref p0), some (.int p1), some (.int q2)] [] N
    unfold lb_M_appendText_27
    refine im_iload_n 16 27 rfl rfl ?_
    refine im_if_lt 17 28 63 rfl (by decide) ?_ ?_
    · exact im_less _ (by simp [lv_le]) (hk0 N)
    · refine im_aload_n 18 31 rfl rfl ?_
      refine im_getR 19 32 rfl fd_M_32 (by decide +kernel) (fun x2 => ?_)
      refine im_aload_n 20 35 rfl rfl ?_
      refine im_getI 21 36 rfl fd_M_226 (by decide +kernel) (fun x3 => ?_)
      refine im_iload_n 22 39 rfl rfl ?_
      refine im_iload_n 23 40 rfl rfl ?_
      refine im_ishr 24 41 rfl ?_
      refine im_sipush 25 42 rfl rfl ?_
      refine im_iand 26 45 rfl ?_
      refine im_iastore 27 46 rfl (fun M2 => ?_)
      refine im_aload_n 28 47 rfl rfl ?_
      refine im_dup 29 48 rfl rfl ?_
      refine im_getI 30 49 rfl fd_M_226 (by decide +kernel) (fun x4 => ?_)
      refine im_iconst 31 52 rfl rfl ?_
      refine im_iadd 32 53 rfl ?_
      refine im_putI 33 54 rfl fd_M_226 (Or.inl (by decide +kernel)) (by decide +kernel) (fun M3 => ?_)
      refine im_iincL 34 57 (fun x5 => [some (.ref p0), some (.int p1), some (.int x5)]) rfl rfl rfl rfl (fun _ => rfl) (fun x5 => ?_)
      refine im_goto 35 60 27 rfl (by decide) ?_
      exact im_less _ (by simp [lv_le]) (ih x5 M3)

set_option maxRecDepth 100000 in
set_option maxHeartbeats 4000000 in
theorem ip_M_appendText (G : gl_T) (t : Nat) (a1 : Int32) (M : mm_T) : im_I mi_M_appendText 1 20 G M sw_i (ff_M_appendText t a1 M) 0 [some (.ref t), some (.int a1), none] [] M := by
  unfold ff_M_appendText
  refine im_gd (fun hg => ?_)
  refine im_aload_n 0 0 rfl rfl ?_
  refine im_iconst 1 1 rfl rfl ?_
  refine im_putI 2 2 rfl fd_M_55 (Or.inl (by decide +kernel)) (by decide +kernel) (fun M1 => ?_)
  refine im_aload_n 3 5 rfl rfl ?_
  refine im_getI 4 6 rfl fd_M_226 (by decide +kernel) (fun x1 => ?_)
  refine im_iconst 5 9 rfl rfl ?_
  refine im_iadd 6 10 rfl ?_
  refine im_sipush 7 11 rfl rfl ?_
  refine im_ic_le 8 14 24 rfl (by decide) ?_ ?_
  · refine im_bipush 14 24 rfl rfl ?_
    refine im_istore_n 15 26 [some (.ref t), some (.int a1), some (.int (24 : Int32))] rfl rfl rfl ?_
    refine im_less [some (.ref t), some (.int a1), some (.int (24 : Int32))] (by simp [lv_le]) ?_
    refine li_M_appendText_27 G M _ t a1 ?_ fu_L (24 : Int32) M1
    · intro M4
      show im_I mi_M_appendText 1 20 G M sw_i (_) 63 [some (.ref t), none, none] [] M4
      refine im_aload_n 36 63 rfl rfl ?_
      refine im_getI 37 64 rfl fd_M_226 (by decide +kernel) (fun x6 => ?_)
      exact im_end rfl (wp_ireturn 38 67 rfl rfl)
  · refine im_aload_n 9 17 rfl rfl ?_
    refine im_iconst 10 18 rfl rfl ?_
    refine im_putI 11 19 rfl fd_M_55 (Or.inl (by decide +kernel)) (by decide +kernel) (fun M5 => ?_)
    refine im_iconst 12 22 rfl rfl ?_
    exact im_end rfl (wp_ireturn 13 23 rfl rfl)

theorem sp_M_appendText (G : gl_T) {t : Nat} {a1 : Int32} {M : mm_T} {y : Int32 × mm_T} (h : ff_M_appendText t a1 M = some y) : sp_S mi_M_appendText 1 20 G [.ref t, .int a1] M (sw_i y).1 (sw_i y).2 := sp_of mo_M_appendText mw_M_appendText (Or.inl (by decide +kernel)) rfl rfl (Or.inl rfl) (ip_M_appendText G t a1 M y h)

set_option maxRecDepth 100000 in
set_option maxHeartbeats 4000000 in
theorem ip_M_truncateText (G : gl_T) (t : Nat) (a1 : Int32) (M : mm_T) : im_I mi_M_truncateText 1 20 G M sw_i (ff_M_truncateText t a1 M) 0 [some (.ref t), some (.int a1)] [] M := by
  unfold ff_M_truncateText
  refine im_gd (fun hg => ?_)
  refine im_aload_n 0 0 rfl rfl ?_
  refine im_iconst 1 1 rfl rfl ?_
  refine im_putI 2 2 rfl fd_M_55 (Or.inl (by decide +kernel)) (by decide +kernel) (fun M1 => ?_)
  refine im_iload_n 3 5 rfl rfl ?_
  refine im_jp (fun j17 => im_I mi_M_truncateText 1 20 G M sw_i (j17) 17 [some (.ref t), none] [] M1) ?_ (fun j17 hj17 => ?_)
  · show im_I mi_M_truncateText 1 20 G M sw_i (_) 17 [some (.ref t), none] [] M1
    refine im_aload_n 9 17 rfl rfl ?_
    refine im_iconst 10 18 rfl rfl ?_
    refine im_putI 11 19 rfl fd_M_55 (Or.inl (by decide +kernel)) (by decide +kernel) (fun M2 => ?_)
    refine im_iconst 12 22 rfl rfl ?_
    exact im_end rfl (wp_ireturn 13 23 rfl rfl)
  refine im_if_lt 4 6 17 rfl (by decide) ?_ ?_
  · exact im_less _ (by simp [lv_le]) (hj17)
  · refine im_iload_n 5 9 rfl rfl ?_
    refine im_aload_n 6 10 rfl rfl ?_
    refine im_getI 7 11 rfl fd_M_226 (by decide +kernel) (fun x1 => ?_)
    refine im_ic_le 8 14 24 rfl (by decide) ?_ ?_
    · refine im_aload_n 14 24 rfl rfl ?_
      refine im_iload_n 15 25 rfl rfl ?_
      refine im_putI 16 26 rfl fd_M_226 (Or.inl (by decide +kernel)) (by decide +kernel) (fun M3 => ?_)
      refine im_iload_n 17 29 rfl rfl ?_
      exact im_end rfl (wp_ireturn 18 30 rfl rfl)
    · exact im_less _ (by simp [lv_le]) (hj17)

theorem sp_M_truncateText (G : gl_T) {t : Nat} {a1 : Int32} {M : mm_T} {y : Int32 × mm_T} (h : ff_M_truncateText t a1 M = some y) : sp_S mi_M_truncateText 1 20 G [.ref t, .int a1] M (sw_i y).1 (sw_i y).2 := sp_of mo_M_truncateText mw_M_truncateText (Or.inl (by decide +kernel)) rfl rfl (Or.inl rfl) (ip_M_truncateText G t a1 M y h)

set_option maxRecDepth 100000 in
set_option maxHeartbeats 4000000 in
theorem ip_M_isByte (G : gl_T) (t : Nat) (a1 : Int32) (a2 : Int32) (M : mm_T) : im_I mi_M_isByte 2 42 G M (sh_i M) (ff_M_isByte t a1 a2 M) 0 [some (.ref t), some (.int a1), some (.int a2)] [] M := by
  unfold ff_M_isByte
  refine im_gd (fun hg => ?_)
  refine im_aload_n 0 0 rfl rfl ?_
  refine im_getI 1 1 rfl fd_M_229 (by decide +kernel) (fun x1 => ?_)
  refine im_aload_n 2 4 rfl rfl ?_
  refine im_getI 3 5 rfl fd_M_226 (by decide +kernel) (fun x2 => ?_)
  refine im_ic_ge 4 8 32 rfl (by decide) ?_ ?_
  · refine im_iconst 16 32 rfl rfl ?_
    exact im_end rfl (wp_zreturn 17 33 (ty := .boolean) rfl (by first | exact nz_0 | exact nz_1) rfl)
  · refine im_aload_n 5 11 rfl rfl ?_
    refine im_getR 6 12 rfl fd_M_32 (by decide +kernel) (fun x3 => ?_)
    refine im_aload_n 7 15 rfl rfl ?_
    refine im_getI 8 16 rfl fd_M_229 (by decide +kernel) (fun x4 => ?_)
    refine im_iaload 9 19 rfl (fun x5 => ?_)
    refine im_iload_n 10 20 rfl rfl ?_
    refine im_iload_n 11 21 rfl rfl ?_
    refine im_ci (S := []) (fun _ hv => cpS (fr' := 1) (lo' := 20) (i := 12) (As := [.int x5, .int a1, .int a2]) (S := []) rfl lk_M_124 mw_M_in mv_M_in rfl rfl rfl rfl (sp_M_in G hv)) (fun x6 => ?_)
    refine im_if_eq 13 25 32 rfl (by decide) ?_ ?_
    · refine im_iconst 16 32 rfl rfl ?_
      exact im_end rfl (wp_zreturn 17 33 (ty := .boolean) rfl (by first | exact nz_0 | exact nz_1) rfl)
    · refine im_iconst 14 28 rfl rfl ?_
      refine im_goto 15 29 33 rfl (by decide) ?_
      exact im_end rfl (wp_zreturn 17 33 (ty := .boolean) rfl (by first | exact nz_0 | exact nz_1) rfl)

theorem sp_M_isByte (G : gl_T) {t : Nat} {a1 : Int32} {a2 : Int32} {M : mm_T} {y : Int32} (h : ff_M_isByte t a1 a2 M = some y) : sp_S mi_M_isByte 2 42 G [.ref t, .int a1, .int a2] M ((sh_i M) y).1 ((sh_i M) y).2 := sp_of mo_M_isByte mw_M_isByte (Or.inl (by decide +kernel)) rfl rfl (Or.inl rfl) (ip_M_isByte G t a1 a2 M y h)

set_option maxRecDepth 100000 in
set_option maxHeartbeats 4000000 in
theorem li_M_next_0 (G : gl_T) (M0 : mm_T) (k0 : mm_T → Option (mm_T)) (p0 : Nat) (hk0 : ∀ (N : mm_T), im_I mi_M_next 3 64 G M0 sw_v (k0 N) 35 [some (.ref p0)] [] N) : ∀ (fu : Nat) (N : mm_T), im_I mi_M_next 3 64 G M0 sw_v (lf_M_next_0 k0 p0 fu N) 0 [some (.ref p0)] [] N := by
  intro fu
  induction fu with
  | zero => intro _; exact im_none
  | succ fu ih =>
    intro N
    show im_I mi_M_next 3 64 G M0 sw_v (lb_M_next_0 k0 p0 (lf_M_next_0 k0 p0 fu) N) 0 [some (.ref p0)] [] N
    unfold lb_M_next_0
    refine im_aload_n 0 0 rfl rfl ?_
    refine im_bipush 1 1 rfl rfl ?_
    refine im_bipush 2 3 rfl rfl ?_
    refine im_ci (S := []) (fun _ hv => cpV (fr' := 2) (lo' := 42) (i := 3) (As := [.int (32 : Int32), .int (32 : Int32)]) (S := []) (a := p0) (c := 11) rfl lk_M_232 mw_M_isByte mv_M_isByte rfl ⟨by decide, rfl⟩ rfl rfl rfl (gd_some hv).1 (sp_M_isByte G hv)) (fun x1 => ?_)
    refine im_jp (fun j22 => im_I mi_M_next 3 64 G M0 sw_v (j22) 22 [some (.ref p0)] [] N) ?_ (fun j22 hj22 => ?_)
    · show im_I mi_M_next 3 64 G M0 sw_v (_) 22 [some (.ref p0)] [] N
      refine im_aload_n 10 22 rfl rfl ?_
      refine im_dup 11 23 rfl rfl ?_
      refine im_getI 12 24 rfl fd_M_229 (by decide +kernel) (fun x2 => ?_)
      refine im_iconst 13 27 rfl rfl ?_
      refine im_iadd 14 28 rfl ?_
      refine im_putI 15 29 rfl fd_M_229 (Or.inl (by decide +kernel)) (by decide +kernel) (fun M1 => ?_)
      refine im_goto 16 32 0 rfl (by decide) ?_
      exact im_less _ (by simp [lv_le]) (ih M1)
    refine im_if_ne 4 8 22 rfl (by decide) ?_ ?_
    · exact im_less _ (by simp [lv_le]) (hj22)
    · refine im_aload_n 5 11 rfl rfl ?_
      refine im_bipush 6 12 rfl rfl ?_
      refine im_bipush 7 14 rfl rfl ?_
      refine im_ci (S := []) (fun _ hv => cpV (fr' := 2) (lo' := 42) (i := 8) (As := [.int (10 : Int32), .int (10 : Int32)]) (S := []) (a := p0) (c := 11) rfl lk_M_232 mw_M_isByte mv_M_isByte rfl ⟨by decide, rfl⟩ rfl rfl rfl (gd_some hv).1 (sp_M_isByte G hv)) (fun x3 => ?_)
      refine im_if_eq 9 19 35 rfl (by decide) ?_ ?_
      · exact im_less _ (by simp [lv_le]) (hk0 N)
      · exact im_less _ (by simp [lv_le]) (hj22)

set_option maxRecDepth 100000 in
set_option maxHeartbeats 4000000 in
theorem li_M_next_121 (G : gl_T) (M0 : mm_T) (k0 : mm_T → Option (mm_T)) (p0 : Nat) (hk0 : ∀ (N : mm_T), im_I mi_M_next 3 64 G M0 sw_v (k0 N) 185 [some (.ref p0)] [] N) : ∀ (fu : Nat) (N : mm_T), im_I mi_M_next 3 64 G M0 sw_v (lf_M_next_121 k0 p0 fu N) 121 [some (.ref p0)] [] N := by
  intro fu
  induction fu with
  | zero => intro _; exact im_none
  | succ fu ih =>
    intro N
    show im_I mi_M_next 3 64 G M0 sw_v (lb_M_next_121 k0 p0 (lf_M_next_121 k0 p0 fu) N) 121 [some (.ref p0)] [] N
    unfold lb_M_next_121
    refine im_aload_n 59 121 rfl rfl ?_
    refine im_bipush 60 122 rfl rfl ?_
    refine im_bipush 61 124 rfl rfl ?_
    refine im_ci (S := []) (fun _ hv => cpV (fr' := 2) (lo' := 42) (i := 62) (As := [.int (48 : Int32), .int (57 : Int32)]) (S := []) (a := p0) (c := 11) rfl lk_M_232 mw_M_isByte mv_M_isByte rfl ⟨by decide, rfl⟩ rfl rfl rfl (gd_some hv).1 (sp_M_isByte G hv)) (fun x12 => ?_)
    refine im_if_eq 63 129 185 rfl (by decide) ?_ ?_
    · exact im_less _ (by simp [lv_le]) (hk0 N)
    · refine im_aload_n 64 132 rfl rfl ?_
      refine im_aload_n 65 133 rfl rfl ?_
      refine im_getI 66 134 rfl fd_M_241 (by decide +kernel) (fun x13 => ?_)
      refine im_ldcI 67 137 (v := (999999 : Int32)) rfl (tb_m 1937 (by decide +kernel) rfl) ?_
      refine im_jp (fun j169 => ∀ (x14 : Int32), im_I mi_M_next 3 64 G M0 sw_v (j169 x14) 169 [some (.ref p0)] [.int x14, .ref p0] N) ?_ (fun j169 hj169 => ?_)
      · intro x14
        show im_I mi_M_next 3 64 G M0 sw_v (_) 169 [some (.ref p0)] [.int x14, .ref p0] N
        refine im_putI 84 169 rfl fd_M_241 (Or.inl (by decide +kernel)) (by decide +kernel) (fun M7 => ?_)
        refine im_aload_n 85 172 rfl rfl ?_
        refine im_dup 86 173 rfl rfl ?_
        refine im_getI 87 174 rfl fd_M_229 (by decide +kernel) (fun x15 => ?_)
        refine im_iconst 88 177 rfl rfl ?_
        refine im_iadd 89 178 rfl ?_
        refine im_putI 90 179 rfl fd_M_229 (Or.inl (by decide +kernel)) (by decide +kernel) (fun M8 => ?_)
        refine im_goto 91 182 121 rfl (by decide) ?_
        exact im_less _ (by simp [lv_le]) (ih M8)
      refine im_ic_le 68 139 149 rfl (by decide) ?_ ?_
      · refine im_bipush 72 149 rfl rfl ?_
        refine im_aload_n 73 151 rfl rfl ?_
        refine im_getI 74 152 rfl fd_M_241 (by decide +kernel) (fun x16 => ?_)
        refine im_imul 75 155 rfl ?_
        refine im_aload_n 76 156 rfl rfl ?_
        refine im_getR 77 157 rfl fd_M_32 (by decide +kernel) (fun x17 => ?_)
        refine im_aload_n 78 160 rfl rfl ?_
        refine im_getI 79 161 rfl fd_M_229 (by decide +kernel) (fun x18 => ?_)
        refine im_iaload 80 164 rfl (fun x19 => ?_)
        refine im_iadd 81 165 rfl ?_
        refine im_bipush 82 166 rfl rfl ?_
        refine im_isub 83 168 rfl ?_
        exact im_less _ (by simp [lv_le]) (hj169 (((((10 : Int32) * x16) + x19) - (48 : Int32))))
      · refine im_aload_n 69 142 rfl rfl ?_
        refine im_getI 70 143 rfl fd_M_241 (by decide +kernel) (fun x20 => ?_)
        refine im_goto 71 146 169 rfl (by decide) ?_
        exact im_less _ (by simp [lv_le]) (hj169 x20)

set_option maxRecDepth 100000 in
set_option maxHeartbeats 4000000 in
theorem li_M_next_73 (G : gl_T) (M0 : mm_T) (k0 : mm_T → Option (mm_T)) (p0 : Nat) (hk0 : ∀ (N : mm_T), im_I mi_M_next 3 64 G M0 sw_v (k0 N) 97 [some (.ref p0)] [] N) : ∀ (fu : Nat) (N : mm_T), im_I mi_M_next 3 64 G M0 sw_v (lf_M_next_73 k0 p0 fu N) 73 [some (.ref p0)] [] N := by
  intro fu
  induction fu with
  | zero => intro _; exact im_none
  | succ fu ih =>
    intro N
    show im_I mi_M_next 3 64 G M0 sw_v (lb_M_next_73 k0 p0 (lf_M_next_73 k0 p0 fu) N) 73 [some (.ref p0)] [] N
    unfold lb_M_next_73
    refine im_aload_n 35 73 rfl rfl ?_
    refine im_bipush 36 74 rfl rfl ?_
    refine im_bipush 37 76 rfl rfl ?_
    refine im_ci (S := []) (fun _ hv => cpV (fr' := 2) (lo' := 42) (i := 38) (As := [.int (97 : Int32), .int (122 : Int32)]) (S := []) (a := p0) (c := 11) rfl lk_M_232 mw_M_isByte mv_M_isByte rfl ⟨by decide, rfl⟩ rfl rfl rfl (gd_some hv).1 (sp_M_isByte G hv)) (fun x21 => ?_)
    refine im_if_eq 39 81 97 rfl (by decide) ?_ ?_
    · exact im_less _ (by simp [lv_le]) (hk0 N)
    · refine im_aload_n 40 84 rfl rfl ?_
      refine im_dup 41 85 rfl rfl ?_
      refine im_getI 42 86 rfl fd_M_229 (by decide +kernel) (fun x22 => ?_)
      refine im_iconst 43 89 rfl rfl ?_
      refine im_iadd 44 90 rfl ?_
      refine im_putI 45 91 rfl fd_M_229 (Or.inl (by decide +kernel)) (by decide +kernel) (fun M11 => ?_)
      refine im_goto 46 94 73 rfl (by decide) ?_
      exact im_less _ (by simp [lv_le]) (ih M11)

set_option maxRecDepth 100000 in
set_option maxHeartbeats 4000000 in
theorem ip_M_next (G : gl_T) (t : Nat) (M : mm_T) : im_I mi_M_next 3 64 G M sw_v (ff_M_next t M) 0 [some (.ref t)] [] M := by
  unfold ff_M_next
  refine im_gd (fun hg => ?_)
  refine im_less [some (.ref t)] (by simp [lv_le]) ?_
  refine li_M_next_0 G M _ t ?_ fu_L M
  · intro M2
    show im_I mi_M_next 3 64 G M sw_v (_) 35 [some (.ref t)] [] M2
    refine im_aload_n 17 35 rfl rfl ?_
    refine im_aload_n 18 36 rfl rfl ?_
    refine im_getI 19 37 rfl fd_M_229 (by decide +kernel) (fun x4 => ?_)
    refine im_putI 20 40 rfl fd_M_235 (Or.inl (by decide +kernel)) (by decide +kernel) (fun M3 => ?_)
    refine im_aload_n 21 43 rfl rfl ?_
    refine im_getI 22 44 rfl fd_M_229 (by decide +kernel) (fun x5 => ?_)
    refine im_aload_n 23 47 rfl rfl ?_
    refine im_getI 24 48 rfl fd_M_226 (by decide +kernel) (fun x6 => ?_)
    refine im_ic_ne 25 51 62 rfl (by decide) ?_ ?_
    · refine im_aload_n 30 62 rfl rfl ?_
      refine im_bipush 31 63 rfl rfl ?_
      refine im_bipush 32 65 rfl rfl ?_
      refine im_ci (S := []) (fun _ hv => cpV (fr' := 2) (lo' := 42) (i := 33) (As := [.int (97 : Int32), .int (122 : Int32)]) (S := []) (a := t) (c := 11) rfl lk_M_232 mw_M_isByte mv_M_isByte rfl ⟨by decide, rfl⟩ rfl rfl rfl (gd_some hv).1 (sp_M_isByte G hv)) (fun x7 => ?_)
      refine im_if_eq 34 70 105 rfl (by decide) ?_ ?_
      · refine im_aload_n 51 105 rfl rfl ?_
        refine im_bipush 52 106 rfl rfl ?_
        refine im_bipush 53 108 rfl rfl ?_
        refine im_ci (S := []) (fun _ hv => cpV (fr' := 2) (lo' := 42) (i := 54) (As := [.int (48 : Int32), .int (57 : Int32)]) (S := []) (a := t) (c := 11) rfl lk_M_232 mw_M_isByte mv_M_isByte rfl ⟨by decide, rfl⟩ rfl rfl rfl (gd_some hv).1 (sp_M_isByte G hv)) (fun x8 => ?_)
        refine im_if_eq 55 113 193 rfl (by decide) ?_ ?_
        · refine im_aload_n 96 193 rfl rfl ?_
          refine im_aload_n 97 194 rfl rfl ?_
          refine im_bipush 98 195 rfl rfl ?_
          refine im_bipush 99 197 rfl rfl ?_
          refine im_ci (S := [.ref t]) (fun _ hv => cpV (fr' := 2) (lo' := 42) (i := 100) (As := [.int (59 : Int32), .int (59 : Int32)]) (S := [.ref t]) (a := t) (c := 11) rfl lk_M_232 mw_M_isByte mv_M_isByte rfl ⟨by decide, rfl⟩ rfl rfl rfl (gd_some hv).1 (sp_M_isByte G hv)) (fun x9 => ?_)
          refine im_jp (fun j210 => ∀ (x10 : Int32), im_I mi_M_next 3 64 G M sw_v (j210 x10) 210 [some (.ref t)] [.int x10, .ref t] M3) ?_ (fun j210 hj210 => ?_)
          · intro x10
            show im_I mi_M_next 3 64 G M sw_v (_) 210 [some (.ref t)] [.int x10, .ref t] M3
            refine im_putI 105 210 rfl fd_M_238 (Or.inl (by decide +kernel)) (by decide +kernel) (fun M4 => ?_)
            refine im_aload_n 106 213 rfl rfl ?_
            refine im_dup 107 214 rfl rfl ?_
            refine im_getI 108 215 rfl fd_M_229 (by decide +kernel) (fun x11 => ?_)
            refine im_iconst 109 218 rfl rfl ?_
            refine im_iadd 110 219 rfl ?_
            refine im_putI 111 220 rfl fd_M_229 (Or.inl (by decide +kernel)) (by decide +kernel) (fun M5 => ?_)
            exact im_end rfl (wp_return 112 223 rfl rfl)
          refine im_if_eq 101 202 209 rfl (by decide) ?_ ?_
          · refine im_iconst 104 209 rfl rfl ?_
            exact im_less _ (by simp [lv_le]) (hj210 (4 : Int32))
          · refine im_iconst 102 205 rfl rfl ?_
            refine im_goto 103 206 210 rfl (by decide) ?_
            exact im_less _ (by simp [lv_le]) (hj210 (3 : Int32))
        · refine im_aload_n 56 116 rfl rfl ?_
          refine im_iconst 57 117 rfl rfl ?_
          refine im_putI 58 118 rfl fd_M_241 (Or.inl (by decide +kernel)) (by decide +kernel) (fun M6 => ?_)
          refine im_less [some (.ref t)] (by simp [lv_le]) ?_
          refine li_M_next_121 G M _ t ?_ fu_L M6
          · intro M9
            show im_I mi_M_next 3 64 G M sw_v (_) 185 [some (.ref t)] [] M9
            refine im_aload_n 92 185 rfl rfl ?_
            refine im_iconst 93 186 rfl rfl ?_
            refine im_putI 94 187 rfl fd_M_238 (Or.inl (by decide +kernel)) (by decide +kernel) (fun M10 => ?_)
            refine im_goto 95 190 223 rfl (by decide) ?_
            exact im_end rfl (wp_return 112 223 rfl rfl)
      · refine im_less [some (.ref t)] (by simp [lv_le]) ?_
        refine li_M_next_73 G M _ t ?_ fu_L M3
        · intro M12
          show im_I mi_M_next 3 64 G M sw_v (_) 97 [some (.ref t)] [] M12
          refine im_aload_n 47 97 rfl rfl ?_
          refine im_iconst 48 98 rfl rfl ?_
          refine im_putI 49 99 rfl fd_M_238 (Or.inl (by decide +kernel)) (by decide +kernel) (fun M13 => ?_)
          refine im_goto 50 102 223 rfl (by decide) ?_
          exact im_end rfl (wp_return 112 223 rfl rfl)
    · refine im_aload_n 26 54 rfl rfl ?_
      refine im_iconst 27 55 rfl rfl ?_
      refine im_putI 28 56 rfl fd_M_238 (Or.inl (by decide +kernel)) (by decide +kernel) (fun M14 => ?_)
      refine im_goto 29 59 223 rfl (by decide) ?_
      exact im_end rfl (wp_return 112 223 rfl rfl)

theorem sp_M_next (G : gl_T) {t : Nat} {M : mm_T} {y : mm_T} (h : ff_M_next t M = some y) : sp_S mi_M_next 3 64 G [.ref t] M (sw_v y).1 (sw_v y).2 := sp_of mo_M_next mw_M_next (Or.inl (by decide +kernel)) rfl rfl (Or.inl rfl) (ip_M_next G t M y h)

set_option maxRecDepth 100000 in
set_option maxHeartbeats 4000000 in
theorem ip_M_must (G : gl_T) (t : Nat) (a1 : Int32) (a2 : Int32) (M : mm_T) : im_I mi_M_must 1 20 G M sw_i (ff_M_must t a1 a2 M) 0 [some (.ref t), some (.int a1), some (.int a2)] [] M := by
  unfold ff_M_must
  refine im_gd (fun hg => ?_)
  refine im_aload_n 0 0 rfl rfl ?_
  refine im_getI 1 1 rfl fd_M_245 (by decide +kernel) (fun x1 => ?_)
  refine im_jp (fun j24 => ∀  (M1 : mm_T), im_I mi_M_must 1 20 G M sw_i (j24 M1) 24 [some (.ref t), none, none] [] M1) ?_ (fun j24 hj24 => ?_)
  · intro M1
    show im_I mi_M_must 1 20 G M sw_i (_) 24 [some (.ref t), none, none] [] M1
    refine im_aload_n 12 24 rfl rfl ?_
    refine im_getI 13 25 rfl fd_M_245 (by decide +kernel) (fun x2 => ?_)
    refine im_if_ne 14 28 35 rfl (by decide) ?_ ?_
    · refine im_iconst 17 35 rfl rfl ?_
      exact im_end rfl (wp_zreturn 18 36 (ty := .boolean) rfl (by first | exact nz_0 | exact nz_1) rfl)
    · refine im_iconst 15 31 rfl rfl ?_
      refine im_goto 16 32 36 rfl (by decide) ?_
      exact im_end rfl (wp_zreturn 18 36 (ty := .boolean) rfl (by first | exact nz_0 | exact nz_1) rfl)
  refine im_if_ne 2 4 24 rfl (by decide) ?_ ?_
  · exact im_less _ (by simp [lv_le]) (hj24 M)
  · refine im_iload_n 3 7 rfl rfl ?_
    refine im_if_ne 4 8 24 rfl (by decide) ?_ ?_
    · exact im_less _ (by simp [lv_le]) (hj24 M)
    · refine im_aload_n 5 11 rfl rfl ?_
      refine im_iload_n 6 12 rfl rfl ?_
      refine im_putI 7 13 rfl fd_M_245 (Or.inl (by decide +kernel)) (by decide +kernel) (fun M2 => ?_)
      refine im_aload_n 8 16 rfl rfl ?_
      refine im_aload_n 9 17 rfl rfl ?_
      refine im_getI 10 18 rfl fd_M_235 (by decide +kernel) (fun x3 => ?_)
      refine im_putI 11 21 rfl fd_M_35 (Or.inl (by decide +kernel)) (by decide +kernel) (fun M3 => ?_)
      exact im_less _ (by simp [lv_le]) (hj24 M3)

theorem sp_M_must (G : gl_T) {t : Nat} {a1 : Int32} {a2 : Int32} {M : mm_T} {y : Int32 × mm_T} (h : ff_M_must t a1 a2 M = some y) : sp_S mi_M_must 1 20 G [.ref t, .int a1, .int a2] M (sw_i y).1 (sw_i y).2 := sp_of mo_M_must mw_M_must (Or.inl (by decide +kernel)) rfl rfl (Or.inl rfl) (ip_M_must G t a1 a2 M y h)

set_option maxRecDepth 100000 in
set_option maxHeartbeats 4000000 in
theorem li_M_isWord_35 (G : gl_T) (p0 : Nat) (p1 : Nat) (M : mm_T) : ∀ (fu : Nat) (q2 : Int32), im_I mi_M_isWord 5 171 G M (sh_i M) (lf_M_isWord_35 p0 p1 M fu q2) 35 [some (.ref p0), some (.ref p1), some (.int q2)] [] M := by
  intro fu
  induction fu with
  | zero => intro _; exact im_none
  | succ fu ih =>
    intro q2
    show im_I mi_M_isWord 5 171 G M (sh_i M) (lb_M_isWord_35 p0 p1 M (lf_M_isWord_35 p0 p1 M fu) q2) 35 [some (.ref p0), some (.ref p1), some (.int q2)] [] M
    unfold lb_M_isWord_35
    refine im_iload_n 19 35 rfl rfl ?_
    refine im_aload_n 20 36 rfl rfl ?_
    refine im_ci (S := [.int q2]) (fun _ hv => cp_len (i := 21) (S := [.int q2]) rfl lm_M_248 rfl rfl hv) (fun x6 => ?_)
    refine im_ic_ge 22 40 70 rfl (by decide) ?_ ?_
    · refine im_iconst 38 70 rfl rfl ?_
      exact im_end rfl (wp_zreturn 39 71 (ty := .boolean) rfl (by first | exact nz_0 | exact nz_1) rfl)
    · refine im_aload_n 23 43 rfl rfl ?_
      refine im_getR 24 44 rfl fd_M_32 (by decide +kernel) (fun x7 => ?_)
      refine im_aload_n 25 47 rfl rfl ?_
      refine im_getI 26 48 rfl fd_M_235 (by decide +kernel) (fun x8 => ?_)
      refine im_iload_n 27 51 rfl rfl ?_
      refine im_iadd 28 52 rfl ?_
      refine im_iaload 29 53 rfl (fun x9 => ?_)
      refine im_aload_n 30 54 rfl rfl ?_
      refine im_iload_n 31 55 rfl rfl ?_
      refine im_ci (S := [.int x9]) (fun _ hv => cp_chr (i := 32) (S := [.int x9]) rfl lm_M_253 rfl rfl hv) (fun x10 => ?_)
      refine im_ic_eq 33 59 64 rfl (by decide) ?_ ?_
      · refine im_iincL 36 64 (fun x11 => [some (.ref p0), some (.ref p1), some (.int x11)]) rfl rfl rfl rfl (fun _ => rfl) (fun x11 => ?_)
        refine im_goto 37 67 35 rfl (by decide) ?_
        exact im_less _ (by simp [lv_le]) (ih x11)
      · refine im_iconst 34 62 rfl rfl ?_
        exact im_end rfl (wp_zreturn 35 63 (ty := .boolean) rfl (by first | exact nz_0 | exact nz_1) rfl)

set_option maxRecDepth 100000 in
set_option maxHeartbeats 4000000 in
theorem ip_M_isWord (G : gl_T) (t : Nat) (a1 : Nat) (M : mm_T) : im_I mi_M_isWord 5 171 G M (sh_i M) (ff_M_isWord t a1 M) 0 [some (.ref t), some (.ref a1), none] [] M := by
  unfold ff_M_isWord
  refine im_gd (fun hg => ?_)
  refine im_aload_n 0 0 rfl rfl ?_
  refine im_getI 1 1 rfl fd_M_245 (by decide +kernel) (fun x1 => ?_)
  refine im_if_ne 2 4 31 rfl (by decide) ?_ ?_
  · refine im_iconst 15 31 rfl rfl ?_
    exact im_end rfl (wp_zreturn 16 32 (ty := .boolean) rfl (by first | exact nz_0 | exact nz_1) rfl)
  · refine im_aload_n 3 7 rfl rfl ?_
    refine im_getI 4 8 rfl fd_M_238 (by decide +kernel) (fun x2 => ?_)
    refine im_iconst 5 11 rfl rfl ?_
    refine im_ic_ne 6 12 31 rfl (by decide) ?_ ?_
    · refine im_iconst 15 31 rfl rfl ?_
      exact im_end rfl (wp_zreturn 16 32 (ty := .boolean) rfl (by first | exact nz_0 | exact nz_1) rfl)
    · refine im_aload_n 7 15 rfl rfl ?_
      refine im_getI 8 16 rfl fd_M_229 (by decide +kernel) (fun x3 => ?_)
      refine im_aload_n 9 19 rfl rfl ?_
      refine im_getI 10 20 rfl fd_M_235 (by decide +kernel) (fun x4 => ?_)
      refine im_isub 11 23 rfl ?_
      refine im_aload_n 12 24 rfl rfl ?_
      refine im_ci (S := [.int (x3 - x4)]) (fun _ hv => cp_len (i := 13) (S := [.int (x3 - x4)]) rfl lm_M_248 rfl rfl hv) (fun x5 => ?_)
      refine im_ic_eq 14 28 33 rfl (by decide) ?_ ?_
      · refine im_iconst 17 33 rfl rfl ?_
        refine im_istore_n 18 34 [some (.ref t), some (.ref a1), some (.int (0 : Int32))] rfl rfl rfl ?_
        refine im_less [some (.ref t), some (.ref a1), some (.int (0 : Int32))] (by simp [lv_le]) ?_
        exact li_M_isWord_35 G t a1 M fu_L (0 : Int32)
      · refine im_iconst 15 31 rfl rfl ?_
        exact im_end rfl (wp_zreturn 16 32 (ty := .boolean) rfl (by first | exact nz_0 | exact nz_1) rfl)

theorem sp_M_isWord (G : gl_T) {t : Nat} {a1 : Nat} {M : mm_T} {y : Int32} (h : ff_M_isWord t a1 M = some y) : sp_S mi_M_isWord 5 171 G [.ref t, .ref a1] M ((sh_i M) y).1 ((sh_i M) y).2 := sp_of mo_M_isWord mw_M_isWord (Or.inl (by decide +kernel)) rfl rfl (Or.inl rfl) (ip_M_isWord G t a1 M y h)

set_option maxRecDepth 100000 in
set_option maxHeartbeats 4000000 in
theorem ip_M_goesOn (G : gl_T) (t : Nat) (M : mm_T) : im_I mi_M_goesOn 4 84 G M sw_v (ff_M_goesOn t M) 0 [some (.ref t)] [] M := by
  unfold ff_M_goesOn
  refine im_gd (fun hg => ?_)
  refine im_aload_n 0 0 rfl rfl ?_
  refine im_getI 1 1 rfl fd_M_245 (by decide +kernel) (fun x1 => ?_)
  refine im_if_ne 2 4 11 rfl (by decide) ?_ ?_
  · exact im_end rfl (wp_return 5 11 rfl rfl)
  · refine im_aload_n 3 7 rfl rfl ?_
    refine im_cWv (S := []) (fun _ hv => cpV (fr' := 3) (lo' := 64) (i := 4) (As := []) (S := []) (a := t) (c := 11) rfl lk_M_257 mw_M_next mv_M_next rfl ⟨by decide, rfl⟩ rfl rfl rfl (gd_some hv).1 (sp_M_next G hv)) (fun M1 => ?_)
    exact im_end rfl (wp_return 5 11 rfl rfl)

theorem sp_M_goesOn (G : gl_T) {t : Nat} {M : mm_T} {y : mm_T} (h : ff_M_goesOn t M = some y) : sp_S mi_M_goesOn 4 84 G [.ref t] M (sw_v y).1 (sw_v y).2 := sp_of mo_M_goesOn mw_M_goesOn (Or.inl (by decide +kernel)) rfl rfl (Or.inl rfl) (ip_M_goesOn G t M y h)

set_option maxRecDepth 100000 in
set_option maxHeartbeats 4000000 in
theorem ip_M_endsLine (G : gl_T) (t : Nat) (M : mm_T) : im_I mi_M_endsLine 5 104 G M sw_v (ff_M_endsLine t M) 0 [some (.ref t)] [] M := by
  unfold ff_M_endsLine
  refine im_gd (fun hg => ?_)
  refine im_aload_n 0 0 rfl rfl ?_
  refine im_aload_n 1 1 rfl rfl ?_
  refine im_getI 2 2 rfl fd_M_238 (by decide +kernel) (fun x1 => ?_)
  refine im_iconst 3 5 rfl rfl ?_
  refine im_jp (fun j14 => ∀ (x2 : Int32), im_I mi_M_endsLine 5 104 G M sw_v (j14 x2) 14 [some (.ref t)] [.int x2, .ref t] M) ?_ (fun j14 hj14 => ?_)
  · intro x2
    show im_I mi_M_endsLine 5 104 G M sw_v (_) 14 [some (.ref t)] [.int x2, .ref t] M
    refine im_iconst 8 14 rfl rfl ?_
    refine im_cWi (S := []) (fun _ _ hv => cpV (fr' := 1) (lo' := 20) (i := 9) (As := [.int x2, .int (1 : Int32)]) (S := []) (a := t) (c := 11) rfl lk_M_260 mw_M_must mv_M_must rfl ⟨by decide, rfl⟩ rfl rfl rfl (gd_some hv).1 (sp_M_must G hv)) (fun x3 M1 => ?_)
    refine im_pop 10 18 rfl rfl ?_
    refine im_aload_n 11 19 rfl rfl ?_
    refine im_cWv (S := []) (fun _ hv => cpV (fr' := 4) (lo' := 84) (i := 12) (As := []) (S := []) (a := t) (c := 11) rfl lk_M_264 mw_M_goesOn mv_M_goesOn rfl ⟨by decide, rfl⟩ rfl rfl rfl (gd_some hv).1 (sp_M_goesOn G hv)) (fun M2 => ?_)
    exact im_end rfl (wp_return 13 23 rfl rfl)
  refine im_ic_ne 4 6 13 rfl (by decide) ?_ ?_
  · refine im_iconst 7 13 rfl rfl ?_
    exact im_less _ (by simp [lv_le]) (hj14 (0 : Int32))
  · refine im_iconst 5 9 rfl rfl ?_
    refine im_goto 6 10 14 rfl (by decide) ?_
    exact im_less _ (by simp [lv_le]) (hj14 (1 : Int32))

theorem sp_M_endsLine (G : gl_T) {t : Nat} {M : mm_T} {y : mm_T} (h : ff_M_endsLine t M = some y) : sp_S mi_M_endsLine 5 104 G [.ref t] M (sw_v y).1 (sw_v y).2 := sp_of mo_M_endsLine mw_M_endsLine (Or.inl (by decide +kernel)) rfl rfl (Or.inl rfl) (ip_M_endsLine G t M y h)

set_option maxRecDepth 100000 in
set_option maxHeartbeats 4000000 in
theorem ip_M_reads (G : gl_T) (t : Nat) (a1 : Int32) (M : mm_T) : im_I mi_M_reads 5 104 G M sw_i (ff_M_reads t a1 M) 0 [some (.ref t), some (.int a1), none] [] M := by
  unfold ff_M_reads
  refine im_gd (fun hg => ?_)
  refine im_aload_n 0 0 rfl rfl ?_
  refine im_aload_n 1 1 rfl rfl ?_
  refine im_getI 2 2 rfl fd_M_238 (by decide +kernel) (fun x1 => ?_)
  refine im_iconst 3 5 rfl rfl ?_
  refine im_jp (fun j14 => ∀ (x2 : Int32), im_I mi_M_reads 5 104 G M sw_i (j14 x2) 14 [some (.ref t), some (.int a1), none] [.int x2, .ref t] M) ?_ (fun j14 hj14 => ?_)
  · intro x2
    show im_I mi_M_reads 5 104 G M sw_i (_) 14 [some (.ref t), some (.int a1), none] [.int x2, .ref t] M
    refine im_iconst 8 14 rfl rfl ?_
    refine im_cWi (S := []) (fun _ _ hv => cpV (fr' := 1) (lo' := 20) (i := 9) (As := [.int x2, .int (1 : Int32)]) (S := []) (a := t) (c := 11) rfl lk_M_260 mw_M_must mv_M_must rfl ⟨by decide, rfl⟩ rfl rfl rfl (gd_some hv).1 (sp_M_must G hv)) (fun x3 M1 => ?_)
    refine im_jp (fun j40 => ∀  (M2 : mm_T), im_I mi_M_reads 5 104 G M sw_i (j40 M2) 40 [some (.ref t), none, none] [] M2) ?_ (fun j40 hj40 => ?_)
    · intro M2
      show im_I mi_M_reads 5 104 G M sw_i (_) 40 [some (.ref t), none, none] [] M2
      refine im_aload_n 22 40 rfl rfl ?_
      refine im_getI 23 41 rfl fd_M_245 (by decide +kernel) (fun x4 => ?_)
      refine im_jp (fun j55 => ∀ (x5 : Int32), im_I mi_M_reads 5 104 G M sw_i (j55 x5) 55 [some (.ref t), none, none] [.int x5] M2) ?_ (fun j55 hj55 => ?_)
      · intro x5
        show im_I mi_M_reads 5 104 G M sw_i (_) 55 [some (.ref t), none, none] [.int x5] M2
        refine im_istore_n 29 55 [some (.ref t), none, some (.int x5)] rfl rfl rfl ?_
        refine im_aload_n 30 56 rfl rfl ?_
        refine im_cWv (S := []) (fun _ hv => cpV (fr' := 4) (lo' := 84) (i := 31) (As := []) (S := []) (a := t) (c := 11) rfl lk_M_264 mw_M_goesOn mv_M_goesOn rfl ⟨by decide, rfl⟩ rfl rfl rfl (gd_some hv).1 (sp_M_goesOn G hv)) (fun M3 => ?_)
        refine im_iload_n 32 60 rfl rfl ?_
        exact im_end rfl (wp_ireturn 33 61 rfl rfl)
      refine im_if_ne 24 44 54 rfl (by decide) ?_ ?_
      · refine im_iconst 28 54 rfl rfl ?_
        exact im_less _ (by simp [lv_le]) (hj55 (0 : Int32))
      · refine im_aload_n 25 47 rfl rfl ?_
        refine im_getI 26 48 rfl fd_M_241 (by decide +kernel) (fun x6 => ?_)
        refine im_goto 27 51 55 rfl (by decide) ?_
        exact im_less _ (by simp [lv_le]) (hj55 x6)
    refine im_if_eq 10 18 40 rfl (by decide) ?_ ?_
    · exact im_less _ (by simp [lv_le]) (hj40 M1)
    · refine im_aload_n 11 21 rfl rfl ?_
      refine im_aload_n 12 22 rfl rfl ?_
      refine im_getI 13 23 rfl fd_M_241 (by decide +kernel) (fun x7 => ?_)
      refine im_iload_n 14 26 rfl rfl ?_
      refine im_jp (fun j35 => ∀ (x8 : Int32), im_I mi_M_reads 5 104 G M sw_i (j35 x8) 35 [some (.ref t), none, none] [.int x8, .ref t] M1) ?_ (fun j35 hj35 => ?_)
      · intro x8
        show im_I mi_M_reads 5 104 G M sw_i (_) 35 [some (.ref t), none, none] [.int x8, .ref t] M1
        refine im_iconst 19 35 rfl rfl ?_
        refine im_cWi (S := []) (fun _ _ hv => cpV (fr' := 1) (lo' := 20) (i := 20) (As := [.int x8, .int (2 : Int32)]) (S := []) (a := t) (c := 11) rfl lk_M_260 mw_M_must mv_M_must rfl ⟨by decide, rfl⟩ rfl rfl rfl (gd_some hv).1 (sp_M_must G hv)) (fun x9 M4 => ?_)
        refine im_pop 21 39 rfl rfl ?_
        exact im_less _ (by simp [lv_le]) (hj40 M4)
      refine im_ic_gt 15 27 34 rfl (by decide) ?_ ?_
      · refine im_iconst 18 34 rfl rfl ?_
        exact im_less _ (by simp [lv_le]) (hj35 (0 : Int32))
      · refine im_iconst 16 30 rfl rfl ?_
        refine im_goto 17 31 35 rfl (by decide) ?_
        exact im_less _ (by simp [lv_le]) (hj35 (1 : Int32))
  refine im_ic_ne 4 6 13 rfl (by decide) ?_ ?_
  · refine im_iconst 7 13 rfl rfl ?_
    exact im_less _ (by simp [lv_le]) (hj14 (0 : Int32))
  · refine im_iconst 5 9 rfl rfl ?_
    refine im_goto 6 10 14 rfl (by decide) ?_
    exact im_less _ (by simp [lv_le]) (hj14 (1 : Int32))

theorem sp_M_reads (G : gl_T) {t : Nat} {a1 : Int32} {M : mm_T} {y : Int32 × mm_T} (h : ff_M_reads t a1 M = some y) : sp_S mi_M_reads 5 104 G [.ref t, .int a1] M (sw_i y).1 (sw_i y).2 := sp_of mo_M_reads mw_M_reads (Or.inl (by decide +kernel)) rfl rfl (Or.inl rfl) (ip_M_reads G t a1 M y h)

set_option maxRecDepth 100000 in
set_option maxHeartbeats 4000000 in
theorem ip_M_readsVariable (G : gl_T) (t : Nat) (M : mm_T) : im_I mi_M_readsVariable 5 104 G M sw_i (ff_M_readsVariable t M) 0 [some (.ref t), none] [] M := by
  unfold ff_M_readsVariable
  refine im_gd (fun hg => ?_)
  refine im_aload_n 0 0 rfl rfl ?_
  refine im_aload_n 1 1 rfl rfl ?_
  refine im_getI 2 2 rfl fd_M_238 (by decide +kernel) (fun x1 => ?_)
  refine im_iconst 3 5 rfl rfl ?_
  refine im_jp (fun j46 => ∀ (x2 : Int32), im_I mi_M_readsVariable 5 104 G M sw_i (j46 x2) 46 [some (.ref t), none] [.int x2, .ref t] M) ?_ (fun j46 hj46 => ?_)
  · intro x2
    show im_I mi_M_readsVariable 5 104 G M sw_i (_) 46 [some (.ref t), none] [.int x2, .ref t] M
    refine im_iconst 24 46 rfl rfl ?_
    refine im_cWi (S := []) (fun _ _ hv => cpV (fr' := 1) (lo' := 20) (i := 25) (As := [.int x2, .int (1 : Int32)]) (S := []) (a := t) (c := 11) rfl lk_M_260 mw_M_must mv_M_must rfl ⟨by decide, rfl⟩ rfl rfl rfl (gd_some hv).1 (sp_M_must G hv)) (fun x3 M1 => ?_)
    refine im_pop 26 50 rfl rfl ?_
    refine im_aload_n 27 51 rfl rfl ?_
    refine im_getI 28 52 rfl fd_M_245 (by decide +kernel) (fun x4 => ?_)
    refine im_jp (fun j74 => ∀ (x5 : Int32), im_I mi_M_readsVariable 5 104 G M sw_i (j74 x5) 74 [some (.ref t), none] [.int x5] M1) ?_ (fun j74 hj74 => ?_)
    · intro x5
      show im_I mi_M_readsVariable 5 104 G M sw_i (_) 74 [some (.ref t), none] [.int x5] M1
      refine im_istore_n 39 74 [some (.ref t), some (.int x5)] rfl rfl rfl ?_
      refine im_aload_n 40 75 rfl rfl ?_
      refine im_cWv (S := []) (fun _ hv => cpV (fr' := 4) (lo' := 84) (i := 41) (As := []) (S := []) (a := t) (c := 11) rfl lk_M_264 mw_M_goesOn mv_M_goesOn rfl ⟨by decide, rfl⟩ rfl rfl rfl (gd_some hv).1 (sp_M_goesOn G hv)) (fun M2 => ?_)
      refine im_iload_n 42 79 rfl rfl ?_
      exact im_end rfl (wp_ireturn 43 80 rfl rfl)
    refine im_if_ne 29 55 73 rfl (by decide) ?_ ?_
    · refine im_iconst 38 73 rfl rfl ?_
      exact im_less _ (by simp [lv_le]) (hj74 (0 : Int32))
    · refine im_aload_n 30 58 rfl rfl ?_
      refine im_getR 31 59 rfl fd_M_32 (by decide +kernel) (fun x6 => ?_)
      refine im_aload_n 32 62 rfl rfl ?_
      refine im_getI 33 63 rfl fd_M_235 (by decide +kernel) (fun x7 => ?_)
      refine im_iaload 34 66 rfl (fun x8 => ?_)
      refine im_bipush 35 67 rfl rfl ?_
      refine im_isub 36 69 rfl ?_
      refine im_goto 37 70 74 rfl (by decide) ?_
      exact im_less _ (by simp [lv_le]) (hj74 ((x8 - (97 : Int32))))
  refine im_jp (fun j45 => im_I mi_M_readsVariable 5 104 G M sw_i (j45) 45 [some (.ref t), none] [.ref t] M) ?_ (fun j45 hj45 => ?_)
  · show im_I mi_M_readsVariable 5 104 G M sw_i (_) 45 [some (.ref t), none] [.ref t] M
    refine im_iconst 23 45 rfl rfl ?_
    exact im_less _ (by simp [lv_le]) (hj46 (0 : Int32))
  refine im_ic_ne 4 6 45 rfl (by decide) ?_ ?_
  · exact im_less _ (by simp [lv_le]) (hj45)
  · refine im_aload_n 5 9 rfl rfl ?_
    refine im_getI 6 10 rfl fd_M_229 (by decide +kernel) (fun x9 => ?_)
    refine im_aload_n 7 13 rfl rfl ?_
    refine im_getI 8 14 rfl fd_M_235 (by decide +kernel) (fun x10 => ?_)
    refine im_isub 9 17 rfl ?_
    refine im_iconst 10 18 rfl rfl ?_
    refine im_ic_ne 11 19 45 rfl (by decide) ?_ ?_
    · exact im_less _ (by simp [lv_le]) (hj45)
    · refine im_aload_n 12 22 rfl rfl ?_
      refine im_getR 13 23 rfl fd_M_32 (by decide +kernel) (fun x11 => ?_)
      refine im_aload_n 14 26 rfl rfl ?_
      refine im_getI 15 27 rfl fd_M_235 (by decide +kernel) (fun x12 => ?_)
      refine im_iaload 16 30 rfl (fun x13 => ?_)
      refine im_bipush 17 31 rfl rfl ?_
      refine im_bipush 18 33 rfl rfl ?_
      refine im_ci (S := [.ref t]) (fun _ hv => cpS (fr' := 1) (lo' := 20) (i := 19) (As := [.int x13, .int (97 : Int32), .int (104 : Int32)]) (S := [.ref t]) rfl lk_M_124 mw_M_in mv_M_in rfl rfl rfl rfl (sp_M_in G hv)) (fun x14 => ?_)
      refine im_if_eq 20 38 45 rfl (by decide) ?_ ?_
      · exact im_less _ (by simp [lv_le]) (hj45)
      · refine im_iconst 21 41 rfl rfl ?_
        refine im_goto 22 42 46 rfl (by decide) ?_
        exact im_less _ (by simp [lv_le]) (hj46 (1 : Int32))

theorem sp_M_readsVariable (G : gl_T) {t : Nat} {M : mm_T} {y : Int32 × mm_T} (h : ff_M_readsVariable t M = some y) : sp_S mi_M_readsVariable 5 104 G [.ref t] M (sw_i y).1 (sw_i y).2 := sp_of mo_M_readsVariable mw_M_readsVariable (Or.inl (by decide +kernel)) rfl rfl (Or.inl rfl) (ip_M_readsVariable G t M y h)

set_option maxRecDepth 100000 in
set_option maxHeartbeats 4000000 in
theorem ip_M_readsOperator (G : gl_T) (t : Nat) (M : mm_T) : im_I mi_M_readsOperator 6 193 G M sw_i (ff_M_readsOperator t M) 0 [some (.ref t), none] [] M := by
  unfold ff_M_readsOperator
  refine im_gd (fun hg => ?_)
  refine im_aload_n 0 0 rfl rfl ?_
  refine im_ldcWS 1 1 rfl (List.mem_of_getElem? (i := 43) rfl) ?_
  refine im_ci (S := []) (fun _ hv => cpV (fr' := 5) (lo' := 171) (i := 2) (As := [.ref (st_B + 6)]) (S := []) (a := t) (c := 11) rfl lk_M_269 mw_M_isWord mv_M_isWord rfl ⟨by decide, rfl⟩ rfl rfl rfl (gd_some hv).1 (sp_M_isWord G hv)) (fun x1 => ?_)
  refine im_jp (fun j29 => ∀ (x2 : Int32), im_I mi_M_readsOperator 6 193 G M sw_i (j29 x2) 29 [some (.ref t), none] [.int x2] M) ?_ (fun j29 hj29 => ?_)
  · intro x2
    show im_I mi_M_readsOperator 6 193 G M sw_i (_) 29 [some (.ref t), none] [.int x2] M
    refine im_istore_n 13 29 [some (.ref t), some (.int x2)] rfl rfl rfl ?_
    refine im_aload_n 14 30 rfl rfl ?_
    refine im_iload_n 15 31 rfl rfl ?_
    refine im_iconst 16 32 rfl rfl ?_
    refine im_jp (fun j51 => ∀ (x3 : Int32), im_I mi_M_readsOperator 6 193 G M sw_i (j51 x3) 51 [some (.ref t), some (.int x2)] [.int x3, .ref t] M) ?_ (fun j51 hj51 => ?_)
    · intro x3
      show im_I mi_M_readsOperator 6 193 G M sw_i (_) 51 [some (.ref t), some (.int x2)] [.int x3, .ref t] M
      refine im_iconst 25 51 rfl rfl ?_
      refine im_cWi (S := []) (fun _ _ hv => cpV (fr' := 1) (lo' := 20) (i := 26) (As := [.int x3, .int (1 : Int32)]) (S := []) (a := t) (c := 11) rfl lk_M_260 mw_M_must mv_M_must rfl ⟨by decide, rfl⟩ rfl rfl rfl (gd_some hv).1 (sp_M_must G hv)) (fun x4 M1 => ?_)
      refine im_pop 27 55 rfl rfl ?_
      refine im_aload_n 28 56 rfl rfl ?_
      refine im_cWv (S := []) (fun _ hv => cpV (fr' := 4) (lo' := 84) (i := 29) (As := []) (S := []) (a := t) (c := 11) rfl lk_M_264 mw_M_goesOn mv_M_goesOn rfl ⟨by decide, rfl⟩ rfl rfl rfl (gd_some hv).1 (sp_M_goesOn G hv)) (fun M2 => ?_)
      refine im_iload_n 30 60 rfl rfl ?_
      exact im_end rfl (wp_ireturn 31 61 rfl rfl)
    refine im_jp (fun j46 => im_I mi_M_readsOperator 6 193 G M sw_i (j46) 46 [some (.ref t), some (.int x2)] [.ref t] M) ?_ (fun j46 hj46 => ?_)
    · show im_I mi_M_readsOperator 6 193 G M sw_i (_) 46 [some (.ref t), some (.int x2)] [.ref t] M
      refine im_iconst 22 46 rfl rfl ?_
      refine im_goto 23 47 51 rfl (by decide) ?_
      exact im_less _ (by simp [lv_le]) (hj51 (1 : Int32))
    refine im_ic_ne 17 33 46 rfl (by decide) ?_ ?_
    · exact im_less _ (by simp [lv_le]) (hj46)
    · refine im_aload_n 18 36 rfl rfl ?_
      refine im_ldcWS 19 37 rfl (List.mem_of_getElem? (i := 45) rfl) ?_
      refine im_ci (S := [.ref t]) (fun _ hv => cpV (fr' := 5) (lo' := 171) (i := 20) (As := [.ref (st_B + 8)]) (S := [.ref t]) (a := t) (c := 11) rfl lk_M_269 mw_M_isWord mv_M_isWord rfl ⟨by decide, rfl⟩ rfl rfl rfl (gd_some hv).1 (sp_M_isWord G hv)) (fun x5 => ?_)
      refine im_if_eq 21 43 50 rfl (by decide) ?_ ?_
      · refine im_iconst 24 50 rfl rfl ?_
        exact im_less _ (by simp [lv_le]) (hj51 (0 : Int32))
      · exact im_less _ (by simp [lv_le]) (hj46)
  refine im_if_eq 3 7 14 rfl (by decide) ?_ ?_
  · refine im_aload_n 6 14 rfl rfl ?_
    refine im_ldcWS 7 15 rfl (List.mem_of_getElem? (i := 44) rfl) ?_
    refine im_ci (S := []) (fun _ hv => cpV (fr' := 5) (lo' := 171) (i := 8) (As := [.ref (st_B + 7)]) (S := []) (a := t) (c := 11) rfl lk_M_269 mw_M_isWord mv_M_isWord rfl ⟨by decide, rfl⟩ rfl rfl rfl (gd_some hv).1 (sp_M_isWord G hv)) (fun x6 => ?_)
    refine im_if_eq 9 21 28 rfl (by decide) ?_ ?_
    · refine im_iconst 12 28 rfl rfl ?_
      exact im_less _ (by simp [lv_le]) (hj29 (2 : Int32))
    · refine im_iconst 10 24 rfl rfl ?_
      refine im_goto 11 25 29 rfl (by decide) ?_
      exact im_less _ (by simp [lv_le]) (hj29 (1 : Int32))
  · refine im_iconst 4 10 rfl rfl ?_
    refine im_goto 5 11 29 rfl (by decide) ?_
    exact im_less _ (by simp [lv_le]) (hj29 (0 : Int32))

theorem sp_M_readsOperator (G : gl_T) {t : Nat} {M : mm_T} {y : Int32 × mm_T} (h : ff_M_readsOperator t M = some y) : sp_S mi_M_readsOperator 6 193 G [.ref t] M (sw_i y).1 (sw_i y).2 := sp_of mo_M_readsOperator mw_M_readsOperator (Or.inl (by decide +kernel)) rfl rfl (Or.inl rfl) (ip_M_readsOperator G t M y h)

set_option maxRecDepth 100000 in
set_option maxHeartbeats 4000000 in
theorem ip_M_kindHere (G : gl_T) (t : Nat) (M : mm_T) : im_I mi_M_kindHere 6 193 G M (sh_i M) (ff_M_kindHere t M) 0 [some (.ref t)] [] M := by
  unfold ff_M_kindHere
  refine im_gd (fun hg => ?_)
  refine im_aload_n 0 0 rfl rfl ?_
  refine im_ldcWS 1 1 rfl (List.mem_of_getElem? (i := 39) rfl) ?_
  refine im_ci (S := []) (fun _ hv => cpV (fr' := 5) (lo' := 171) (i := 2) (As := [.ref (st_B + 2)]) (S := []) (a := t) (c := 11) rfl lk_M_269 mw_M_isWord mv_M_isWord rfl ⟨by decide, rfl⟩ rfl rfl rfl (gd_some hv).1 (sp_M_isWord G hv)) (fun x1 => ?_)
  refine im_if_eq 3 7 12 rfl (by decide) ?_ ?_
  · refine im_aload_n 6 12 rfl rfl ?_
    refine im_ldcWS 7 13 rfl (List.mem_of_getElem? (i := 40) rfl) ?_
    refine im_ci (S := []) (fun _ hv => cpV (fr' := 5) (lo' := 171) (i := 8) (As := [.ref (st_B + 3)]) (S := []) (a := t) (c := 11) rfl lk_M_269 mw_M_isWord mv_M_isWord rfl ⟨by decide, rfl⟩ rfl rfl rfl (gd_some hv).1 (sp_M_isWord G hv)) (fun x2 => ?_)
    refine im_if_eq 9 19 24 rfl (by decide) ?_ ?_
    · refine im_aload_n 12 24 rfl rfl ?_
      refine im_ldcWS 13 25 rfl (List.mem_of_getElem? (i := 41) rfl) ?_
      refine im_ci (S := []) (fun _ hv => cpV (fr' := 5) (lo' := 171) (i := 14) (As := [.ref (st_B + 4)]) (S := []) (a := t) (c := 11) rfl lk_M_269 mw_M_isWord mv_M_isWord rfl ⟨by decide, rfl⟩ rfl rfl rfl (gd_some hv).1 (sp_M_isWord G hv)) (fun x3 => ?_)
      refine im_if_eq 15 31 36 rfl (by decide) ?_ ?_
      · refine im_aload_n 18 36 rfl rfl ?_
        refine im_ldcWS 19 37 rfl (List.mem_of_getElem? (i := 42) rfl) ?_
        refine im_ci (S := []) (fun _ hv => cpV (fr' := 5) (lo' := 171) (i := 20) (As := [.ref (st_B + 5)]) (S := []) (a := t) (c := 11) rfl lk_M_269 mw_M_isWord mv_M_isWord rfl ⟨by decide, rfl⟩ rfl rfl rfl (gd_some hv).1 (sp_M_isWord G hv)) (fun x4 => ?_)
        refine im_if_eq 21 43 50 rfl (by decide) ?_ ?_
        · refine im_iconst 24 50 rfl rfl ?_
          exact im_end rfl (wp_ireturn 25 51 rfl rfl)
        · refine im_iconst 22 46 rfl rfl ?_
          refine im_goto 23 47 51 rfl (by decide) ?_
          exact im_end rfl (wp_ireturn 25 51 rfl rfl)
      · refine im_iconst 16 34 rfl rfl ?_
        exact im_end rfl (wp_ireturn 17 35 rfl rfl)
    · refine im_iconst 10 22 rfl rfl ?_
      exact im_end rfl (wp_ireturn 11 23 rfl rfl)
  · refine im_iconst 4 10 rfl rfl ?_
    exact im_end rfl (wp_ireturn 5 11 rfl rfl)

theorem sp_M_kindHere (G : gl_T) {t : Nat} {M : mm_T} {y : Int32} (h : ff_M_kindHere t M = some y) : sp_S mi_M_kindHere 6 193 G [.ref t] M ((sh_i M) y).1 ((sh_i M) y).2 := sp_of mo_M_kindHere mw_M_kindHere (Or.inl (by decide +kernel)) rfl rfl (Or.inl rfl) (ip_M_kindHere G t M y h)

set_option maxRecDepth 100000 in
set_option maxHeartbeats 4000000 in
theorem ip_M_readsItem (G : gl_T) (t : Nat) (a1 : Int32) (M : mm_T) : im_I mi_M_readsItem 7 214 G M sw_v (ff_M_readsItem t a1 M) 0 [some (.ref t), some (.int a1), none, none, none, none] [] M := by
  unfold ff_M_readsItem
  refine im_gd (fun hg => ?_)
  refine im_aload_n 0 0 rfl rfl ?_
  refine im_aload_n 1 1 rfl rfl ?_
  refine im_iconst 2 2 rfl rfl ?_
  refine im_ci (S := [.ref t]) (fun _ hv => cpV (fr' := 1) (lo' := 20) (i := 3) (As := [.int (1 : Int32)]) (S := [.ref t]) (a := t) (c := 11) rfl lk_M_61 mw_M_get mv_M_get rfl ⟨by decide, rfl⟩ rfl rfl rfl (gd_some hv).1 (sp_M_get G hv)) (fun x1 => ?_)
  refine im_bipush 4 6 rfl rfl ?_
  refine im_jp (fun j16 => ∀ (x2 : Int32), im_I mi_M_readsItem 7 214 G M sw_v (j16 x2) 16 [some (.ref t), some (.int a1), none, none, none, none] [.int x2, .ref t] M) ?_ (fun j16 hj16 => ?_)
  · intro x2
    show im_I mi_M_readsItem 7 214 G M sw_v (_) 16 [some (.ref t), some (.int a1), none, none, none, none] [.int x2, .ref t] M
    refine im_iconst 9 16 rfl rfl ?_
    refine im_cWi (S := []) (fun _ _ hv => cpV (fr' := 1) (lo' := 20) (i := 10) (As := [.int x2, .int (3 : Int32)]) (S := []) (a := t) (c := 11) rfl lk_M_260 mw_M_must mv_M_must rfl ⟨by decide, rfl⟩ rfl rfl rfl (gd_some hv).1 (sp_M_must G hv)) (fun x3 M1 => ?_)
    refine im_if_ne 11 20 24 rfl (by decide) ?_ ?_
    · refine im_aload_n 13 24 rfl rfl ?_
      refine im_cWv (S := []) (fun _ hv => cpV (fr' := 4) (lo' := 84) (i := 14) (As := []) (S := []) (a := t) (c := 11) rfl lk_M_264 mw_M_goesOn mv_M_goesOn rfl ⟨by decide, rfl⟩ rfl rfl rfl (gd_some hv).1 (sp_M_goesOn G hv)) (fun M2 => ?_)
      refine im_iload_n 15 28 rfl rfl ?_
      refine im_iconst 16 29 rfl rfl ?_
      refine im_jp (fun j41 => ∀ (x4 : Int32) (M3 : mm_T), im_I mi_M_readsItem 7 214 G M sw_v (j41 x4 M3) 41 [some (.ref t), some (.int a1), none, none, none, none] [.int x4] M3) ?_ (fun j41 hj41 => ?_)
      · intro x4 M3
        show im_I mi_M_readsItem 7 214 G M sw_v (_) 41 [some (.ref t), some (.int a1), none, none, none, none] [.int x4] M3
        refine im_istore_n 22 41 [some (.ref t), some (.int a1), some (.int x4), none, none, none] rfl rfl rfl ?_
        refine im_iload_n 23 42 rfl rfl ?_
        refine im_jp (fun j60 => ∀ (x5 : Int32) (M4 : mm_T), im_I mi_M_readsItem 7 214 G M sw_v (j60 x5 M4) 60 [some (.ref t), some (.int a1), some (.int x4), none, none, none] [.int x5] M4) ?_ (fun j60 hj60 => ?_)
        · intro x5 M4
          show im_I mi_M_readsItem 7 214 G M sw_v (_) 60 [some (.ref t), some (.int a1), some (.int x4), none, none, none] [.int x5] M4
          refine im_istore_n 31 60 [some (.ref t), some (.int a1), some (.int x4), some (.int x5), none, none] rfl rfl rfl ?_
          refine im_iload_n 32 61 rfl rfl ?_
          refine im_iconst 33 62 rfl rfl ?_
          refine im_jp (fun j74 => ∀ (x6 : Int32) (M5 : mm_T), im_I mi_M_readsItem 7 214 G M sw_v (j74 x6 M5) 74 [some (.ref t), some (.int a1), some (.int x4), some (.int x5), none, none] [.int x6] M5) ?_ (fun j74 hj74 => ?_)
          · intro x6 M5
            show im_I mi_M_readsItem 7 214 G M sw_v (_) 74 [some (.ref t), some (.int a1), some (.int x4), some (.int x5), none, none] [.int x6] M5
            refine im_istore 39 74 [some (.ref t), some (.int a1), some (.int x4), some (.int x5), some (.int x6), none] rfl rfl rfl ?_
            refine im_iload_n 40 76 rfl rfl ?_
            refine im_iconst 41 77 rfl rfl ?_
            refine im_jp (fun j89 => ∀ (x7 : Int32) (M6 : mm_T), im_I mi_M_readsItem 7 214 G M sw_v (j89 x7 M6) 89 [some (.ref t), some (.int a1), some (.int x4), some (.int x5), some (.int x6), none] [.int x7] M6) ?_ (fun j89 hj89 => ?_)
            · intro x7 M6
              show im_I mi_M_readsItem 7 214 G M sw_v (_) 89 [some (.ref t), some (.int a1), some (.int x4), some (.int x5), some (.int x6), none] [.int x7] M6
              refine im_istore 47 89 [some (.ref t), some (.int a1), some (.int x4), some (.int x5), some (.int x6), some (.int x7)] rfl rfl rfl ?_
              refine im_aload_n 48 91 rfl rfl ?_
              refine im_cWv (S := []) (fun _ hv => cpV (fr' := 5) (lo' := 104) (i := 49) (As := []) (S := []) (a := t) (c := 11) rfl lk_M_294 mw_M_endsLine mv_M_endsLine rfl ⟨by decide, rfl⟩ rfl rfl rfl (gd_some hv).1 (sp_M_endsLine G hv)) (fun M7 => ?_)
              refine im_aload_n 50 95 rfl rfl ?_
              refine im_getI 51 96 rfl fd_M_245 (by decide +kernel) (fun x8 => ?_)
              refine im_if_ne 52 99 113 rfl (by decide) ?_ ?_
              · exact im_end rfl (wp_return 60 113 rfl rfl)
              · refine im_aload_n 53 102 rfl rfl ?_
                refine im_iload_n 54 103 rfl rfl ?_
                refine im_iload_n 55 104 rfl rfl ?_
                refine im_iload_n 56 105 rfl rfl ?_
                refine im_iload 57 106 rfl rfl ?_
                refine im_iload 58 108 rfl rfl ?_
                refine im_cWv (S := []) (fun _ hv => cpV (fr' := 4) (lo' := 91) (i := 59) (As := [.int a1, .int x4, .int x5, .int x6, .int x7]) (S := []) (a := t) (c := 11) rfl lk_M_48 mw_M_newItem mv_M_newItem rfl ⟨by decide, rfl⟩ rfl rfl rfl (gd_some hv).1 (sp_M_newItem G hv)) (fun M8 => ?_)
                exact im_end rfl (wp_return 60 113 rfl rfl)
            refine im_ic_ne 42 78 88 rfl (by decide) ?_ ?_
            · refine im_iconst 46 88 rfl rfl ?_
              exact im_less _ (by simp [lv_le]) (hj89 (0 : Int32) M5)
            · refine im_aload_n 43 81 rfl rfl ?_
              refine im_cWi (S := []) (fun _ _ hv => cpV (fr' := 5) (lo' := 104) (i := 44) (As := []) (S := []) (a := t) (c := 11) rfl lk_M_285 mw_M_readsVariable mv_M_readsVariable rfl ⟨by decide, rfl⟩ rfl rfl rfl (gd_some hv).1 (sp_M_readsVariable G hv)) (fun x9 M9 => ?_)
              refine im_goto 45 85 89 rfl (by decide) ?_
              exact im_less _ (by simp [lv_le]) (hj89 x9 M9)
          refine im_ic_ne 34 63 73 rfl (by decide) ?_ ?_
          · refine im_iconst 38 73 rfl rfl ?_
            exact im_less _ (by simp [lv_le]) (hj74 (0 : Int32) M4)
          · refine im_aload_n 35 66 rfl rfl ?_
            refine im_cWi (S := []) (fun _ _ hv => cpV (fr' := 6) (lo' := 193) (i := 36) (As := []) (S := []) (a := t) (c := 11) rfl lk_M_291 mw_M_readsOperator mv_M_readsOperator rfl ⟨by decide, rfl⟩ rfl rfl rfl (gd_some hv).1 (sp_M_readsOperator G hv)) (fun x10 M10 => ?_)
            refine im_goto 37 70 74 rfl (by decide) ?_
            exact im_less _ (by simp [lv_le]) (hj74 x10 M10)
        refine im_if_ne 24 43 56 rfl (by decide) ?_ ?_
        · refine im_aload_n 29 56 rfl rfl ?_
          refine im_cWi (S := []) (fun _ _ hv => cpV (fr' := 5) (lo' := 104) (i := 30) (As := []) (S := []) (a := t) (c := 11) rfl lk_M_285 mw_M_readsVariable mv_M_readsVariable rfl ⟨by decide, rfl⟩ rfl rfl rfl (gd_some hv).1 (sp_M_readsVariable G hv)) (fun x11 M11 => ?_)
          exact im_less _ (by simp [lv_le]) (hj60 x11 M11)
        · refine im_aload_n 25 46 rfl rfl ?_
          refine im_sipush 26 47 rfl rfl ?_
          refine im_cWi (S := []) (fun _ _ hv => cpV (fr' := 5) (lo' := 104) (i := 27) (As := [.int (999 : Int32)]) (S := []) (a := t) (c := 11) rfl lk_M_288 mw_M_reads mv_M_reads rfl ⟨by decide, rfl⟩ rfl rfl rfl (gd_some hv).1 (sp_M_reads G hv)) (fun x12 M12 => ?_)
          refine im_goto 28 53 60 rfl (by decide) ?_
          exact im_less _ (by simp [lv_le]) (hj60 x12 M12)
      refine im_ic_ne 17 30 37 rfl (by decide) ?_ ?_
      · refine im_aload_n 20 37 rfl rfl ?_
        refine im_cWi (S := []) (fun _ _ hv => cpV (fr' := 5) (lo' := 104) (i := 21) (As := []) (S := []) (a := t) (c := 11) rfl lk_M_285 mw_M_readsVariable mv_M_readsVariable rfl ⟨by decide, rfl⟩ rfl rfl rfl (gd_some hv).1 (sp_M_readsVariable G hv)) (fun x13 M13 => ?_)
        exact im_less _ (by simp [lv_le]) (hj41 x13 M13)
      · refine im_iconst 18 33 rfl rfl ?_
        refine im_goto 19 34 41 rfl (by decide) ?_
        exact im_less _ (by simp [lv_le]) (hj41 (0 : Int32) M2)
    · exact im_end rfl (wp_return 12 23 rfl rfl)
  refine im_ic_ge 5 8 15 rfl (by decide) ?_ ?_
  · refine im_iconst 8 15 rfl rfl ?_
    exact im_less _ (by simp [lv_le]) (hj16 (0 : Int32))
  · refine im_iconst 6 11 rfl rfl ?_
    refine im_goto 7 12 16 rfl (by decide) ?_
    exact im_less _ (by simp [lv_le]) (hj16 (1 : Int32))

theorem sp_M_readsItem (G : gl_T) {t : Nat} {a1 : Int32} {M : mm_T} {y : mm_T} (h : ff_M_readsItem t a1 M = some y) : sp_S mi_M_readsItem 7 214 G [.ref t, .int a1] M (sw_v y).1 (sw_v y).2 := sp_of mo_M_readsItem mw_M_readsItem (Or.inl (by decide +kernel)) rfl rfl (Or.inl rfl) (ip_M_readsItem G t a1 M y h)

set_option maxRecDepth 100000 in
set_option maxHeartbeats 4000000 in
theorem ip_M_readsWay (G : gl_T) (t : Nat) (a1 : Int32) (M : mm_T) : im_I mi_M_readsWay 6 126 G M sw_i (ff_M_readsWay t a1 M) 0 [some (.ref t), some (.int a1)] [] M := by
  unfold ff_M_readsWay
  refine im_gd (fun hg => ?_)
  refine im_aload_n 0 0 rfl rfl ?_
  refine im_getR 1 1 rfl fd_M_39 (by decide +kernel) (fun x1 => ?_)
  refine im_iconst 2 4 rfl rfl ?_
  refine im_aload_n 3 5 rfl rfl ?_
  refine im_iconst 4 6 rfl rfl ?_
  refine im_ci (S := [.int (2 : Int32), .ref x1]) (fun _ hv => cpV (fr' := 1) (lo' := 20) (i := 5) (As := [.int (0 : Int32)]) (S := [.int (2 : Int32), .ref x1]) (a := t) (c := 11) rfl lk_M_61 mw_M_get mv_M_get rfl ⟨by decide, rfl⟩ rfl rfl rfl (gd_some hv).1 (sp_M_get G hv)) (fun x2 => ?_)
  refine im_iconst 6 10 rfl rfl ?_
  refine im_isub 7 11 rfl ?_
  refine im_imul 8 12 rfl ?_
  refine im_iload_n 9 13 rfl rfl ?_
  refine im_iadd 10 14 rfl ?_
  refine im_aload_n 11 15 rfl rfl ?_
  refine im_getI 12 16 rfl fd_M_235 (by decide +kernel) (fun x3 => ?_)
  refine im_iastore 13 19 rfl (fun M1 => ?_)
  refine im_aload_n 14 20 rfl rfl ?_
  refine im_bipush 15 21 rfl rfl ?_
  refine im_cWi (S := []) (fun _ _ hv => cpV (fr' := 5) (lo' := 104) (i := 16) (As := [.int (11 : Int32)]) (S := []) (a := t) (c := 11) rfl lk_M_288 mw_M_reads mv_M_reads rfl ⟨by decide, rfl⟩ rfl rfl rfl (gd_some hv).1 (sp_M_reads G hv)) (fun x4 M2 => ?_)
  exact im_end rfl (wp_ireturn 17 26 rfl rfl)

theorem sp_M_readsWay (G : gl_T) {t : Nat} {a1 : Int32} {M : mm_T} {y : Int32 × mm_T} (h : ff_M_readsWay t a1 M = some y) : sp_S mi_M_readsWay 6 126 G [.ref t, .int a1] M (sw_i y).1 (sw_i y).2 := sp_of mo_M_readsWay mw_M_readsWay (Or.inl (by decide +kernel)) rfl rfl (Or.inl rfl) (ip_M_readsWay G t a1 M y h)

set_option maxRecDepth 100000 in
set_option maxHeartbeats 4000000 in
theorem ip_M_readsExit (G : gl_T) (t : Nat) (M : mm_T) : im_I mi_M_readsExit 7 193 G M sw_v (ff_M_readsExit t M) 0 [some (.ref t), none, none, none, none, none] [] M := by
  unfold ff_M_readsExit
  refine im_gd (fun hg => ?_)
  refine im_aload_n 0 0 rfl rfl ?_
  refine im_iconst 1 1 rfl rfl ?_
  refine im_ci (S := []) (fun _ hv => cpV (fr' := 1) (lo' := 20) (i := 2) (As := [.int (0 : Int32)]) (S := []) (a := t) (c := 11) rfl lk_M_61 mw_M_get mv_M_get rfl ⟨by decide, rfl⟩ rfl rfl rfl (gd_some hv).1 (sp_M_get G hv)) (fun x1 => ?_)
  refine im_iconst 3 5 rfl rfl ?_
  refine im_isub 4 6 rfl ?_
  refine im_letI (fun x2 => ?_)
  refine im_istore_n 5 7 [some (.ref t), some (.int x2), none, none, none, none] rfl rfl rfl ?_
  refine im_aload_n 6 8 rfl rfl ?_
  refine im_ldcWS 7 9 rfl (List.mem_of_getElem? (i := 46) rfl) ?_
  refine im_ci (S := []) (fun _ hv => cpV (fr' := 5) (lo' := 171) (i := 8) (As := [.ref (st_B + 9)]) (S := []) (a := t) (c := 11) rfl lk_M_269 mw_M_isWord mv_M_isWord rfl ⟨by decide, rfl⟩ rfl rfl rfl (gd_some hv).1 (sp_M_isWord G hv)) (fun x3 => ?_)
  refine im_jp (fun j37 => ∀ (x4 : Int32), im_I mi_M_readsExit 7 193 G M sw_v (j37 x4) 37 [some (.ref t), some (.int x2), none, none, none, none] [.int x4] M) ?_ (fun j37 hj37 => ?_)
  · intro x4
    show im_I mi_M_readsExit 7 193 G M sw_v (_) 37 [some (.ref t), some (.int x2), none, none, none, none] [.int x4] M
    refine im_istore_n 19 37 [some (.ref t), some (.int x2), some (.int x4), none, none, none] rfl rfl rfl ?_
    refine im_aload_n 20 38 rfl rfl ?_
    refine im_iload_n 21 39 rfl rfl ?_
    refine im_iconst 22 40 rfl rfl ?_
    refine im_jp (fun j59 => ∀ (x5 : Int32), im_I mi_M_readsExit 7 193 G M sw_v (j59 x5) 59 [some (.ref t), some (.int x2), some (.int x4), none, none, none] [.int x5, .ref t] M) ?_ (fun j59 hj59 => ?_)
    · intro x5
      show im_I mi_M_readsExit 7 193 G M sw_v (_) 59 [some (.ref t), some (.int x2), some (.int x4), none, none, none] [.int x5, .ref t] M
      refine im_iconst 31 59 rfl rfl ?_
      refine im_cWi (S := []) (fun _ _ hv => cpV (fr' := 1) (lo' := 20) (i := 32) (As := [.int x5, .int (1 : Int32)]) (S := []) (a := t) (c := 11) rfl lk_M_260 mw_M_must mv_M_must rfl ⟨by decide, rfl⟩ rfl rfl rfl (gd_some hv).1 (sp_M_must G hv)) (fun x6 M1 => ?_)
      refine im_if_ne 33 63 67 rfl (by decide) ?_ ?_
      · refine im_aload_n 35 67 rfl rfl ?_
        refine im_cWv (S := []) (fun _ hv => cpV (fr' := 4) (lo' := 84) (i := 36) (As := []) (S := []) (a := t) (c := 11) rfl lk_M_264 mw_M_goesOn mv_M_goesOn rfl ⟨by decide, rfl⟩ rfl rfl rfl (gd_some hv).1 (sp_M_goesOn G hv)) (fun M2 => ?_)
        refine im_iload_n 37 71 rfl rfl ?_
        refine im_iconst 38 72 rfl rfl ?_
        refine im_jp (fun j84 => ∀ (x7 : Int32) (M3 : mm_T), im_I mi_M_readsExit 7 193 G M sw_v (j84 x7 M3) 84 [some (.ref t), some (.int x2), some (.int x4), none, none, none] [.int x7] M3) ?_ (fun j84 hj84 => ?_)
        · intro x7 M3
          show im_I mi_M_readsExit 7 193 G M sw_v (_) 84 [some (.ref t), some (.int x2), some (.int x4), none, none, none] [.int x7] M3
          refine im_istore_n 44 84 [some (.ref t), some (.int x2), some (.int x4), some (.int x7), none, none] rfl rfl rfl ?_
          refine im_iload_n 45 85 rfl rfl ?_
          refine im_jp (fun j98 => ∀ (x8 : Int32) (M4 : mm_T), im_I mi_M_readsExit 7 193 G M sw_v (j98 x8 M4) 98 [some (.ref t), some (.int x2), some (.int x4), some (.int x7), none, none] [.int x8] M4) ?_ (fun j98 hj98 => ?_)
          · intro x8 M4
            show im_I mi_M_readsExit 7 193 G M sw_v (_) 98 [some (.ref t), some (.int x2), some (.int x4), some (.int x7), none, none] [.int x8] M4
            refine im_istore 52 98 [some (.ref t), some (.int x2), some (.int x4), some (.int x7), some (.int x8), none] rfl rfl rfl ?_
            refine im_iload_n 53 100 rfl rfl ?_
            refine im_iconst 54 101 rfl rfl ?_
            refine im_jp (fun j114 => ∀ (x9 : Int32) (M5 : mm_T), im_I mi_M_readsExit 7 193 G M sw_v (j114 x9 M5) 114 [some (.ref t), some (.int x2), some (.int x4), some (.int x7), some (.int x8), none] [.int x9] M5) ?_ (fun j114 hj114 => ?_)
            · intro x9 M5
              show im_I mi_M_readsExit 7 193 G M sw_v (_) 114 [some (.ref t), some (.int x2), some (.int x4), some (.int x7), some (.int x8), none] [.int x9] M5
              refine im_istore 61 114 [some (.ref t), some (.int x2), some (.int x4), some (.int x7), some (.int x8), some (.int x9)] rfl rfl rfl ?_
              refine im_aload_n 62 116 rfl rfl ?_
              refine im_cWv (S := []) (fun _ hv => cpV (fr' := 5) (lo' := 104) (i := 63) (As := []) (S := []) (a := t) (c := 11) rfl lk_M_294 mw_M_endsLine mv_M_endsLine rfl ⟨by decide, rfl⟩ rfl rfl rfl (gd_some hv).1 (sp_M_endsLine G hv)) (fun M6 => ?_)
              refine im_aload_n 64 120 rfl rfl ?_
              refine im_getI 65 121 rfl fd_M_245 (by decide +kernel) (fun x10 => ?_)
              refine im_if_ne 66 124 138 rfl (by decide) ?_ ?_
              · exact im_end rfl (wp_return 74 138 rfl rfl)
              · refine im_aload_n 67 127 rfl rfl ?_
                refine im_iload_n 68 128 rfl rfl ?_
                refine im_iload_n 69 129 rfl rfl ?_
                refine im_iload_n 70 130 rfl rfl ?_
                refine im_iload 71 131 rfl rfl ?_
                refine im_iload 72 133 rfl rfl ?_
                refine im_cWv (S := []) (fun _ hv => cpV (fr' := 3) (lo' := 65) (i := 73) (As := [.int x2, .int x4, .int x7, .int x8, .int x9]) (S := []) (a := t) (c := 11) rfl lk_M_52 mw_M_exits mv_M_exits rfl ⟨by decide, rfl⟩ rfl rfl rfl (gd_some hv).1 (sp_M_exits G hv)) (fun M7 => ?_)
                exact im_end rfl (wp_return 74 138 rfl rfl)
            refine im_ic_ne 55 102 113 rfl (by decide) ?_ ?_
            · refine im_iconst 60 113 rfl rfl ?_
              exact im_less _ (by simp [lv_le]) (hj114 (0 : Int32) M4)
            · refine im_aload_n 56 105 rfl rfl ?_
              refine im_iconst 57 106 rfl rfl ?_
              refine im_cWi (S := []) (fun _ _ hv => cpV (fr' := 6) (lo' := 126) (i := 58) (As := [.int (1 : Int32)]) (S := []) (a := t) (c := 11) rfl lk_M_303 mw_M_readsWay mv_M_readsWay rfl ⟨by decide, rfl⟩ rfl rfl rfl (gd_some hv).1 (sp_M_readsWay G hv)) (fun x11 M8 => ?_)
              refine im_goto 59 110 114 rfl (by decide) ?_
              exact im_less _ (by simp [lv_le]) (hj114 x11 M8)
          refine im_if_ne 46 86 93 rfl (by decide) ?_ ?_
          · refine im_aload_n 49 93 rfl rfl ?_
            refine im_iconst 50 94 rfl rfl ?_
            refine im_cWi (S := []) (fun _ _ hv => cpV (fr' := 6) (lo' := 126) (i := 51) (As := [.int (0 : Int32)]) (S := []) (a := t) (c := 11) rfl lk_M_303 mw_M_readsWay mv_M_readsWay rfl ⟨by decide, rfl⟩ rfl rfl rfl (gd_some hv).1 (sp_M_readsWay G hv)) (fun x12 M9 => ?_)
            exact im_less _ (by simp [lv_le]) (hj98 x12 M9)
          · refine im_iconst 47 89 rfl rfl ?_
            refine im_goto 48 90 98 rfl (by decide) ?_
            exact im_less _ (by simp [lv_le]) (hj98 (0 : Int32) M3)
        refine im_ic_ne 39 73 83 rfl (by decide) ?_ ?_
        · refine im_iconst 43 83 rfl rfl ?_
          exact im_less _ (by simp [lv_le]) (hj84 (0 : Int32) M2)
        · refine im_aload_n 40 76 rfl rfl ?_
          refine im_cWi (S := []) (fun _ _ hv => cpV (fr' := 5) (lo' := 104) (i := 41) (As := []) (S := []) (a := t) (c := 11) rfl lk_M_285 mw_M_readsVariable mv_M_readsVariable rfl ⟨by decide, rfl⟩ rfl rfl rfl (gd_some hv).1 (sp_M_readsVariable G hv)) (fun x13 M10 => ?_)
          refine im_goto 42 80 84 rfl (by decide) ?_
          exact im_less _ (by simp [lv_le]) (hj84 x13 M10)
      · exact im_end rfl (wp_return 34 66 rfl rfl)
    refine im_jp (fun j54 => im_I mi_M_readsExit 7 193 G M sw_v (j54) 54 [some (.ref t), some (.int x2), some (.int x4), none, none, none] [.ref t] M) ?_ (fun j54 hj54 => ?_)
    · show im_I mi_M_readsExit 7 193 G M sw_v (_) 54 [some (.ref t), some (.int x2), some (.int x4), none, none, none] [.ref t] M
      refine im_iconst 28 54 rfl rfl ?_
      refine im_goto 29 55 59 rfl (by decide) ?_
      exact im_less _ (by simp [lv_le]) (hj59 (1 : Int32))
    refine im_ic_ne 23 41 54 rfl (by decide) ?_ ?_
    · exact im_less _ (by simp [lv_le]) (hj54)
    · refine im_aload_n 24 44 rfl rfl ?_
      refine im_ldcWS 25 45 rfl (List.mem_of_getElem? (i := 48) rfl) ?_
      refine im_ci (S := [.ref t]) (fun _ hv => cpV (fr' := 5) (lo' := 171) (i := 26) (As := [.ref (st_B + 11)]) (S := [.ref t]) (a := t) (c := 11) rfl lk_M_269 mw_M_isWord mv_M_isWord rfl ⟨by decide, rfl⟩ rfl rfl rfl (gd_some hv).1 (sp_M_isWord G hv)) (fun x14 => ?_)
      refine im_if_eq 27 51 58 rfl (by decide) ?_ ?_
      · refine im_iconst 30 58 rfl rfl ?_
        exact im_less _ (by simp [lv_le]) (hj59 (0 : Int32))
      · exact im_less _ (by simp [lv_le]) (hj54)
  refine im_if_eq 9 15 22 rfl (by decide) ?_ ?_
  · refine im_aload_n 12 22 rfl rfl ?_
    refine im_ldcWS 13 23 rfl (List.mem_of_getElem? (i := 47) rfl) ?_
    refine im_ci (S := []) (fun _ hv => cpV (fr' := 5) (lo' := 171) (i := 14) (As := [.ref (st_B + 10)]) (S := []) (a := t) (c := 11) rfl lk_M_269 mw_M_isWord mv_M_isWord rfl ⟨by decide, rfl⟩ rfl rfl rfl (gd_some hv).1 (sp_M_isWord G hv)) (fun x15 => ?_)
    refine im_if_eq 15 29 36 rfl (by decide) ?_ ?_
    · refine im_iconst 18 36 rfl rfl ?_
      exact im_less _ (by simp [lv_le]) (hj37 (2 : Int32))
    · refine im_iconst 16 32 rfl rfl ?_
      refine im_goto 17 33 37 rfl (by decide) ?_
      exact im_less _ (by simp [lv_le]) (hj37 (1 : Int32))
  · refine im_iconst 10 18 rfl rfl ?_
    refine im_goto 11 19 37 rfl (by decide) ?_
    exact im_less _ (by simp [lv_le]) (hj37 (0 : Int32))

theorem sp_M_readsExit (G : gl_T) {t : Nat} {M : mm_T} {y : mm_T} (h : ff_M_readsExit t M = some y) : sp_S mi_M_readsExit 7 193 G [.ref t] M (sw_v y).1 (sw_v y).2 := sp_of mo_M_readsExit mw_M_readsExit (Or.inl (by decide +kernel)) rfl rfl (Or.inl rfl) (ip_M_readsExit G t M y h)

set_option maxRecDepth 100000 in
set_option maxHeartbeats 4000000 in
theorem li_M_readsBlock_64 (G : gl_T) (M0 : mm_T) (k0 : mm_T → Option (mm_T)) (p0 : Nat) (hk0 : ∀ (N : mm_T), im_I mi_M_readsBlock 8 239 G M0 sw_v (k0 N) 89 [some (.ref p0), none] [] N) : ∀ (fu : Nat) (q1 : Int32) (N : mm_T), im_I mi_M_readsBlock 8 239 G M0 sw_v (lf_M_readsBlock_64 k0 p0 fu q1 N) 64 [some (.ref p0), some (.int q1)] [] N := by
  intro fu
  induction fu with
  | zero => intro _ _; exact im_none
  | succ fu ih =>
    intro q1 N
    show im_I mi_M_readsBlock 8 239 G M0 sw_v (lb_M_readsBlock_64 k0 p0 (lf_M_readsBlock_64 k0 p0 fu) q1 N) 64 [some (.ref p0), some (.int q1)] [] N
    unfold lb_M_readsBlock_64
    refine im_iload_n 33 64 rfl rfl ?_
    refine im_iconst 34 65 rfl rfl ?_
    refine im_ic_eq 35 66 89 rfl (by decide) ?_ ?_
    · exact im_less _ (by simp [lv_le]) (hk0 N)
    · refine im_aload_n 36 69 rfl rfl ?_
      refine im_getI 37 70 rfl fd_M_245 (by decide +kernel) (fun x8 => ?_)
      refine im_if_ne 38 73 89 rfl (by decide) ?_ ?_
      · exact im_less _ (by simp [lv_le]) (hk0 N)
      · refine im_aload_n 39 76 rfl rfl ?_
        refine im_iload_n 40 77 rfl rfl ?_
        refine im_cWv (S := []) (fun _ hv => cpV (fr' := 7) (lo' := 214) (i := 41) (As := [.int q1]) (S := []) (a := p0) (c := 11) rfl lk_M_311 mw_M_readsItem mv_M_readsItem rfl ⟨by decide, rfl⟩ rfl rfl rfl (gd_some hv).1 (sp_M_readsItem G hv)) (fun M6 => ?_)
        refine im_aload_n 42 81 rfl rfl ?_
        refine im_ci (S := []) (fun _ hv => cpV (fr' := 6) (lo' := 193) (i := 43) (As := []) (S := []) (a := p0) (c := 11) rfl lk_M_308 mw_M_kindHere mv_M_kindHere rfl ⟨by decide, rfl⟩ rfl rfl rfl (gd_some hv).1 (sp_M_kindHere G hv)) (fun x9 => ?_)
        refine im_istore_n 44 85 [some (.ref p0), some (.int x9)] rfl rfl rfl ?_
        refine im_goto 45 86 64 rfl (by decide) ?_
        exact im_less _ (by simp [lv_le]) (ih x9 M6)

set_option maxRecDepth 100000 in
set_option maxHeartbeats 4000000 in
theorem ip_M_readsBlock (G : gl_T) (t : Nat) (M : mm_T) : im_I mi_M_readsBlock 8 239 G M sw_v (ff_M_readsBlock t M) 0 [some (.ref t), none] [] M := by
  unfold ff_M_readsBlock
  refine im_gd (fun hg => ?_)
  refine im_aload_n 0 0 rfl rfl ?_
  refine im_aload_n 1 1 rfl rfl ?_
  refine im_ldcWS 2 2 rfl (List.mem_of_getElem? (i := 38) rfl) ?_
  refine im_ci (S := [.ref t]) (fun _ hv => cpV (fr' := 5) (lo' := 171) (i := 3) (As := [.ref (st_B + 1)]) (S := [.ref t]) (a := t) (c := 11) rfl lk_M_269 mw_M_isWord mv_M_isWord rfl ⟨by decide, rfl⟩ rfl rfl rfl (gd_some hv).1 (sp_M_isWord G hv)) (fun x1 => ?_)
  refine im_iconst 4 8 rfl rfl ?_
  refine im_cWi (S := []) (fun _ _ hv => cpV (fr' := 1) (lo' := 20) (i := 5) (As := [.int x1, .int (1 : Int32)]) (S := []) (a := t) (c := 11) rfl lk_M_260 mw_M_must mv_M_must rfl ⟨by decide, rfl⟩ rfl rfl rfl (gd_some hv).1 (sp_M_must G hv)) (fun x2 M1 => ?_)
  refine im_if_eq 6 12 38 rfl (by decide) ?_ ?_
  · exact im_end rfl (wp_return 19 38 rfl rfl)
  · refine im_aload_n 7 15 rfl rfl ?_
    refine im_aload_n 8 16 rfl rfl ?_
    refine im_iconst 9 17 rfl rfl ?_
    refine im_ci (S := [.ref t]) (fun _ hv => cpV (fr' := 1) (lo' := 20) (i := 10) (As := [.int (0 : Int32)]) (S := [.ref t]) (a := t) (c := 11) rfl lk_M_61 mw_M_get mv_M_get rfl ⟨by decide, rfl⟩ rfl rfl rfl (gd_some hv).1 (sp_M_get G hv)) (fun x3 => ?_)
    refine im_bipush 11 21 rfl rfl ?_
    refine im_jp (fun j31 => ∀ (x4 : Int32), im_I mi_M_readsBlock 8 239 G M sw_v (j31 x4) 31 [some (.ref t), none] [.int x4, .ref t] M1) ?_ (fun j31 hj31 => ?_)
    · intro x4
      show im_I mi_M_readsBlock 8 239 G M sw_v (_) 31 [some (.ref t), none] [.int x4, .ref t] M1
      refine im_iconst 16 31 rfl rfl ?_
      refine im_cWi (S := []) (fun _ _ hv => cpV (fr' := 1) (lo' := 20) (i := 17) (As := [.int x4, .int (3 : Int32)]) (S := []) (a := t) (c := 11) rfl lk_M_260 mw_M_must mv_M_must rfl ⟨by decide, rfl⟩ rfl rfl rfl (gd_some hv).1 (sp_M_must G hv)) (fun x5 M2 => ?_)
      refine im_if_ne 18 35 39 rfl (by decide) ?_ ?_
      · refine im_aload_n 20 39 rfl rfl ?_
        refine im_cWv (S := []) (fun _ hv => cpV (fr' := 4) (lo' := 84) (i := 21) (As := []) (S := []) (a := t) (c := 11) rfl lk_M_264 mw_M_goesOn mv_M_goesOn rfl ⟨by decide, rfl⟩ rfl rfl rfl (gd_some hv).1 (sp_M_goesOn G hv)) (fun M3 => ?_)
        refine im_aload_n 22 43 rfl rfl ?_
        refine im_cWv (S := []) (fun _ hv => cpV (fr' := 5) (lo' := 104) (i := 23) (As := []) (S := []) (a := t) (c := 11) rfl lk_M_294 mw_M_endsLine mv_M_endsLine rfl ⟨by decide, rfl⟩ rfl rfl rfl (gd_some hv).1 (sp_M_endsLine G hv)) (fun M4 => ?_)
        refine im_aload_n 24 47 rfl rfl ?_
        refine im_getI 25 48 rfl fd_M_245 (by decide +kernel) (fun x6 => ?_)
        refine im_if_eq 26 51 55 rfl (by decide) ?_ ?_
        · refine im_aload_n 28 55 rfl rfl ?_
          refine im_cWv (S := []) (fun _ hv => cpV (fr' := 3) (lo' := 65) (i := 29) (As := []) (S := []) (a := t) (c := 11) rfl lk_M_45 mw_M_newBlock mv_M_newBlock rfl ⟨by decide, rfl⟩ rfl rfl rfl (gd_some hv).1 (sp_M_newBlock G hv)) (fun M5 => ?_)
          refine im_aload_n 30 59 rfl rfl ?_
          refine im_ci (S := []) (fun _ hv => cpV (fr' := 6) (lo' := 193) (i := 31) (As := []) (S := []) (a := t) (c := 11) rfl lk_M_308 mw_M_kindHere mv_M_kindHere rfl ⟨by decide, rfl⟩ rfl rfl rfl (gd_some hv).1 (sp_M_kindHere G hv)) (fun x7 => ?_)
          refine im_istore_n 32 63 [some (.ref t), some (.int x7)] rfl rfl rfl ?_
          refine im_less [some (.ref t), some (.int x7)] (by simp [lv_le]) ?_
          refine li_M_readsBlock_64 G M _ t ?_ fu_L x7 M5
          · intro M7
            show im_I mi_M_readsBlock 8 239 G M sw_v (_) 89 [some (.ref t), none] [] M7
            refine im_aload_n 46 89 rfl rfl ?_
            refine im_getI 47 90 rfl fd_M_245 (by decide +kernel) (fun x10 => ?_)
            refine im_if_ne 48 93 100 rfl (by decide) ?_ ?_
            · exact im_end rfl (wp_return 51 100 rfl rfl)
            · refine im_aload_n 49 96 rfl rfl ?_
              refine im_cWv (S := []) (fun _ hv => cpV (fr' := 7) (lo' := 193) (i := 50) (As := []) (S := []) (a := t) (c := 11) rfl lk_M_314 mw_M_readsExit mv_M_readsExit rfl ⟨by decide, rfl⟩ rfl rfl rfl (gd_some hv).1 (sp_M_readsExit G hv)) (fun M8 => ?_)
              exact im_end rfl (wp_return 51 100 rfl rfl)
        · exact im_end rfl (wp_return 27 54 rfl rfl)
      · exact im_end rfl (wp_return 19 38 rfl rfl)
    refine im_ic_ge 12 23 30 rfl (by decide) ?_ ?_
    · refine im_iconst 15 30 rfl rfl ?_
      exact im_less _ (by simp [lv_le]) (hj31 (0 : Int32))
    · refine im_iconst 13 26 rfl rfl ?_
      refine im_goto 14 27 31 rfl (by decide) ?_
      exact im_less _ (by simp [lv_le]) (hj31 (1 : Int32))

theorem sp_M_readsBlock (G : gl_T) {t : Nat} {M : mm_T} {y : mm_T} (h : ff_M_readsBlock t M = some y) : sp_S mi_M_readsBlock 8 239 G [.ref t] M (sw_v y).1 (sw_v y).2 := sp_of mo_M_readsBlock mw_M_readsBlock (Or.inl (by decide +kernel)) rfl rfl (Or.inl rfl) (ip_M_readsBlock G t M y h)

set_option maxRecDepth 100000 in
set_option maxHeartbeats 4000000 in
theorem li_M_checksWays_13 (G : gl_T) (M0 : mm_T) (k0 : mm_T → Option (mm_T)) (p0 : Nat) (p1 : Int32) (hk0 : ∀ (N : mm_T), im_I mi_M_checksWays 4 85 G M0 sw_v (k0 N) 71 [some (.ref p0), some (.int p1), none] [] N) : ∀ (fu : Nat) (q2 : Int32) (N : mm_T), im_I mi_M_checksWays 4 85 G M0 sw_v (lf_M_checksWays_13 k0 p0 p1 fu q2 N) 13 [some (.ref p0), some (.int p1), some (.int q2)] [] N := by
  intro fu
  induction fu with
  | zero => intro _ _; exact im_none
  | succ fu ih =>
    intro q2 N
    show im_I mi_M_checksWays 4 85 G M0 sw_v (lb_M_checksWays_13 k0 p0 p1 (lf_M_checksWays_13 k0 p0 p1 fu) q2 N) 13 [some (.ref p0), some (.int p1), some (.int q2)] [] N
    unfold lb_M_checksWays_13
    refine im_iload_n 9 13 rfl rfl ?_
    refine im_aload_n 10 14 rfl rfl ?_
    refine im_iload_n 11 15 rfl rfl ?_
    refine im_ci (S := [.int q2]) (fun _ hv => cpV (fr' := 3) (lo' := 63) (i := 12) (As := [.int p1]) (S := [.int q2]) (a := p0) (c := 11) rfl lk_M_90 mw_M_ways mv_M_ways rfl ⟨by decide, rfl⟩ rfl rfl rfl (gd_some hv).1 (sp_M_ways G hv)) (fun x2 => ?_)
    refine im_ic_ge 13 19 71 rfl (by decide) ?_ ?_
    · exact im_less _ (by simp [lv_le]) (hk0 N)
    · refine im_aload_n 14 22 rfl rfl ?_
      refine im_getI 15 23 rfl fd_M_245 (by decide +kernel) (fun x3 => ?_)
      refine im_jp (fun j65 => ∀  (M1 : mm_T), im_I mi_M_checksWays 4 85 G M0 sw_v (j65 M1) 65 [some (.ref p0), some (.int p1), some (.int q2)] [] M1) ?_ (fun j65 hj65 => ?_)
      · intro M1
        show im_I mi_M_checksWays 4 85 G M0 sw_v (_) 65 [some (.ref p0), some (.int p1), some (.int q2)] [] M1
        refine im_iincL 39 65 (fun x4 => [some (.ref p0), some (.int p1), some (.int x4)]) rfl rfl rfl rfl (fun _ => rfl) (fun x4 => ?_)
        refine im_goto 40 68 13 rfl (by decide) ?_
        exact im_less _ (by simp [lv_le]) (ih x4 M1)
      refine im_if_ne 16 26 65 rfl (by decide) ?_ ?_
      · exact im_less _ (by simp [lv_le]) (hj65 N)
      · refine im_aload_n 17 29 rfl rfl ?_
        refine im_iload_n 18 30 rfl rfl ?_
        refine im_iload_n 19 31 rfl rfl ?_
        refine im_ci (S := []) (fun _ hv => cpV (fr' := 3) (lo' := 63) (i := 20) (As := [.int p1, .int q2]) (S := []) (a := p0) (c := 11) rfl lk_M_93 mw_M_way mv_M_way rfl ⟨by decide, rfl⟩ rfl rfl rfl (gd_some hv).1 (sp_M_way G hv)) (fun x5 => ?_)
        refine im_aload_n 21 35 rfl rfl ?_
        refine im_iconst 22 36 rfl rfl ?_
        refine im_ci (S := [.int x5]) (fun _ hv => cpV (fr' := 1) (lo' := 20) (i := 23) (As := [.int (0 : Int32)]) (S := [.int x5]) (a := p0) (c := 11) rfl lk_M_61 mw_M_get mv_M_get rfl ⟨by decide, rfl⟩ rfl rfl rfl (gd_some hv).1 (sp_M_get G hv)) (fun x6 => ?_)
        refine im_ic_ge 24 40 46 rfl (by decide) ?_ ?_
        · refine im_aload_n 26 46 rfl rfl ?_
          refine im_iconst 27 47 rfl rfl ?_
          refine im_putI 28 48 rfl fd_M_245 (Or.inl (by decide +kernel)) (by decide +kernel) (fun M2 => ?_)
          refine im_aload_n 29 51 rfl rfl ?_
          refine im_aload_n 30 52 rfl rfl ?_
          refine im_getR 31 53 rfl fd_M_39 (by decide +kernel) (fun x7 => ?_)
          refine im_iconst 32 56 rfl rfl ?_
          refine im_iload_n 33 57 rfl rfl ?_
          refine im_imul 34 58 rfl ?_
          refine im_iload_n 35 59 rfl rfl ?_
          refine im_iadd 36 60 rfl ?_
          refine im_iaload 37 61 rfl (fun x8 => ?_)
          refine im_putI 38 62 rfl fd_M_35 (Or.inl (by decide +kernel)) (by decide +kernel) (fun M3 => ?_)
          exact im_less _ (by simp [lv_le]) (hj65 M3)
        · refine im_goto 25 43 65 rfl (by decide) ?_
          exact im_less _ (by simp [lv_le]) (hj65 N)

set_option maxRecDepth 100000 in
set_option maxHeartbeats 4000000 in
theorem li_M_checksWays_2 (G : gl_T) (M0 : mm_T) (p0 : Nat) : ∀ (fu : Nat) (q1 : Int32) (N : mm_T), im_I mi_M_checksWays 4 85 G M0 sw_v (lf_M_checksWays_2 p0 fu q1 N) 2 [some (.ref p0), some (.int q1), none] [] N := by
  intro fu
  induction fu with
  | zero => intro _ _; exact im_none
  | succ fu ih =>
    intro q1 N
    show im_I mi_M_checksWays 4 85 G M0 sw_v (lb_M_checksWays_2 p0 (lf_M_checksWays_2 p0 fu) q1 N) 2 [some (.ref p0), some (.int q1), none] [] N
    unfold lb_M_checksWays_2
    refine im_iload_n 2 2 rfl rfl ?_
    refine im_aload_n 3 3 rfl rfl ?_
    refine im_iconst 4 4 rfl rfl ?_
    refine im_ci (S := [.int q1]) (fun _ hv => cpV (fr' := 1) (lo' := 20) (i := 5) (As := [.int (0 : Int32)]) (S := [.int q1]) (a := p0) (c := 11) rfl lk_M_61 mw_M_get mv_M_get rfl ⟨by decide, rfl⟩ rfl rfl rfl (gd_some hv).1 (sp_M_get G hv)) (fun x1 => ?_)
    refine im_ic_ge 6 8 77 rfl (by decide) ?_ ?_
    · exact im_end rfl (wp_return 43 77 rfl rfl)
    · refine im_iconst 7 11 rfl rfl ?_
      refine im_istore_n 8 12 [some (.ref p0), some (.int q1), some (.int (0 : Int32))] rfl rfl rfl ?_
      refine im_less [some (.ref p0), some (.int q1), some (.int (0 : Int32))] (by simp [lv_le]) ?_
      refine li_M_checksWays_13 G M0 _ p0 q1 ?_ fu_L (0 : Int32) N
      · intro M4
        show im_I mi_M_checksWays 4 85 G M0 sw_v (_) 71 [some (.ref p0), some (.int q1), none] [] M4
        refine im_iincL 41 71 (fun x9 => [some (.ref p0), some (.int x9), none]) rfl rfl rfl rfl (fun _ => rfl) (fun x9 => ?_)
        refine im_goto 42 74 2 rfl (by decide) ?_
        exact im_less _ (by simp [lv_le]) (ih x9 M4)

set_option maxRecDepth 100000 in
set_option maxHeartbeats 4000000 in
theorem ip_M_checksWays (G : gl_T) (t : Nat) (M : mm_T) : im_I mi_M_checksWays 4 85 G M sw_v (ff_M_checksWays t M) 0 [some (.ref t), none, none] [] M := by
  unfold ff_M_checksWays
  refine im_gd (fun hg => ?_)
  refine im_iconst 0 0 rfl rfl ?_
  refine im_istore_n 1 1 [some (.ref t), some (.int (0 : Int32)), none] rfl rfl rfl ?_
  refine im_less [some (.ref t), some (.int (0 : Int32)), none] (by simp [lv_le]) ?_
  exact li_M_checksWays_2 G M t fu_L (0 : Int32) M

theorem sp_M_checksWays (G : gl_T) {t : Nat} {M : mm_T} {y : mm_T} (h : ff_M_checksWays t M = some y) : sp_S mi_M_checksWays 4 85 G [.ref t] M (sw_v y).1 (sw_v y).2 := sp_of mo_M_checksWays mw_M_checksWays (Or.inl (by decide +kernel)) rfl rfl (Or.inl rfl) (ip_M_checksWays G t M y h)

set_option maxRecDepth 100000 in
set_option maxHeartbeats 4000000 in
theorem li_M_loadProgram_13 (G : gl_T) (M0 : mm_T) (k0 : mm_T → Option (Int32 × mm_T)) (p0 : Nat) (hk0 : ∀ (N : mm_T), im_I mi_M_loadProgram 9 260 G M0 sw_i (k0 N) 32 [some (.ref p0), none] [] N) : ∀ (fu : Nat) (q1 : Int32) (N : mm_T), im_I mi_M_loadProgram 9 260 G M0 sw_i (lf_M_loadProgram_13 k0 p0 fu q1 N) 13 [some (.ref p0), some (.int q1)] [] N := by
  intro fu
  induction fu with
  | zero => intro _ _; exact im_none
  | succ fu ih =>
    intro q1 N
    show im_I mi_M_loadProgram 9 260 G M0 sw_i (lb_M_loadProgram_13 k0 p0 (lf_M_loadProgram_13 k0 p0 fu) q1 N) 13 [some (.ref p0), some (.int q1)] [] N
    unfold lb_M_loadProgram_13
    refine im_iload_n 8 13 rfl rfl ?_
    refine im_sipush 9 14 rfl rfl ?_
    refine im_ic_ge 10 17 32 rfl (by decide) ?_ ?_
    · exact im_less _ (by simp [lv_le]) (hk0 N)
    · refine im_aload_n 11 20 rfl rfl ?_
      refine im_iload_n 12 21 rfl rfl ?_
      refine im_iconst 13 22 rfl rfl ?_
      refine im_cWv (S := []) (fun _ hv => cpV (fr' := 1) (lo' := 20) (i := 14) (As := [.int q1, .int (0 : Int32)]) (S := []) (a := p0) (c := 11) rfl lk_M_65 mw_M_lay mv_M_lay rfl ⟨by decide, rfl⟩ rfl rfl rfl (gd_some hv).1 (sp_M_lay G hv)) (fun M3 => ?_)
      refine im_iincL 15 26 (fun x1 => [some (.ref p0), some (.int x1)]) rfl rfl rfl rfl (fun _ => rfl) (fun x1 => ?_)
      refine im_goto 16 29 13 rfl (by decide) ?_
      exact im_less _ (by simp [lv_le]) (ih x1 M3)

set_option maxRecDepth 100000 in
set_option maxHeartbeats 4000000 in
theorem li_M_loadProgram_51 (G : gl_T) (M0 : mm_T) (k0 : mm_T → Option (Int32 × mm_T)) (p0 : Nat) (hk0 : ∀ (N : mm_T), im_I mi_M_loadProgram 9 260 G M0 sw_i (k0 N) 80 [some (.ref p0), none] [] N) : ∀ (fu : Nat) (N : mm_T), im_I mi_M_loadProgram 9 260 G M0 sw_i (lf_M_loadProgram_51 k0 p0 fu N) 51 [some (.ref p0), none] [] N := by
  intro fu
  induction fu with
  | zero => intro _; exact im_none
  | succ fu ih =>
    intro N
    show im_I mi_M_loadProgram 9 260 G M0 sw_i (lb_M_loadProgram_51 k0 p0 (lf_M_loadProgram_51 k0 p0 fu) N) 51 [some (.ref p0), none] [] N
    unfold lb_M_loadProgram_51
    refine im_aload_n 28 51 rfl rfl ?_
    refine im_getI 29 52 rfl fd_M_245 (by decide +kernel) (fun x2 => ?_)
    refine im_if_ne 30 55 80 rfl (by decide) ?_ ?_
    · exact im_less _ (by simp [lv_le]) (hk0 N)
    · refine im_aload_n 31 58 rfl rfl ?_
      refine im_iconst 32 59 rfl rfl ?_
      refine im_ci (S := []) (fun _ hv => cpV (fr' := 1) (lo' := 20) (i := 33) (As := [.int (0 : Int32)]) (S := []) (a := p0) (c := 11) rfl lk_M_61 mw_M_get mv_M_get rfl ⟨by decide, rfl⟩ rfl rfl rfl (gd_some hv).1 (sp_M_get G hv)) (fun x3 => ?_)
      refine im_jp (fun j73 => im_I mi_M_loadProgram 9 260 G M0 sw_i (j73) 73 [some (.ref p0), none] [] N) ?_ (fun j73 hj73 => ?_)
      · show im_I mi_M_loadProgram 9 260 G M0 sw_i (_) 73 [some (.ref p0), none] [] N
        refine im_aload_n 38 73 rfl rfl ?_
        refine im_cWv (S := []) (fun _ hv => cpV (fr' := 8) (lo' := 239) (i := 39) (As := []) (S := []) (a := p0) (c := 11) rfl lk_M_317 mw_M_readsBlock mv_M_readsBlock rfl ⟨by decide, rfl⟩ rfl rfl rfl (gd_some hv).1 (sp_M_readsBlock G hv)) (fun M9 => ?_)
        refine im_goto 40 77 51 rfl (by decide) ?_
        exact im_less _ (by simp [lv_le]) (ih M9)
      refine im_if_eq 34 63 73 rfl (by decide) ?_ ?_
      · exact im_less _ (by simp [lv_le]) (hj73)
      · refine im_aload_n 35 66 rfl rfl ?_
        refine im_getI 36 67 rfl fd_M_238 (by decide +kernel) (fun x4 => ?_)
        refine im_if_eq 37 70 80 rfl (by decide) ?_ ?_
        · exact im_less _ (by simp [lv_le]) (hk0 N)
        · exact im_less _ (by simp [lv_le]) (hj73)

set_option maxRecDepth 100000 in
set_option maxHeartbeats 4000000 in
theorem ip_M_loadProgram (G : gl_T) (t : Nat) (M : mm_T) : im_I mi_M_loadProgram 9 260 G M sw_i (ff_M_loadProgram t M) 0 [some (.ref t), none] [] M := by
  unfold ff_M_loadProgram
  refine im_gd (fun hg => ?_)
  refine im_aload_n 0 0 rfl rfl ?_
  refine im_iconst 1 1 rfl rfl ?_
  refine im_putI 2 2 rfl fd_M_55 (Or.inl (by decide +kernel)) (by decide +kernel) (fun M1 => ?_)
  refine im_aload_n 3 5 rfl rfl ?_
  refine im_bipush 4 6 rfl rfl ?_
  refine im_putI 5 8 rfl fd_M_58 (Or.inl (by decide +kernel)) (by decide +kernel) (fun M2 => ?_)
  refine im_iconst 6 11 rfl rfl ?_
  refine im_istore_n 7 12 [some (.ref t), some (.int (0 : Int32))] rfl rfl rfl ?_
  refine im_less [some (.ref t), some (.int (0 : Int32))] (by simp [lv_le]) ?_
  refine li_M_loadProgram_13 G M _ t ?_ fu_L (0 : Int32) M2
  · intro M4
    show im_I mi_M_loadProgram 9 260 G M sw_i (_) 32 [some (.ref t), none] [] M4
    refine im_aload_n 17 32 rfl rfl ?_
    refine im_iconst 18 33 rfl rfl ?_
    refine im_putI 19 34 rfl fd_M_245 (Or.inl (by decide +kernel)) (by decide +kernel) (fun M5 => ?_)
    refine im_aload_n 20 37 rfl rfl ?_
    refine im_iconst 21 38 rfl rfl ?_
    refine im_putI 22 39 rfl fd_M_35 (Or.inl (by decide +kernel)) (by decide +kernel) (fun M6 => ?_)
    refine im_aload_n 23 42 rfl rfl ?_
    refine im_iconst 24 43 rfl rfl ?_
    refine im_putI 25 44 rfl fd_M_229 (Or.inl (by decide +kernel)) (by decide +kernel) (fun M7 => ?_)
    refine im_aload_n 26 47 rfl rfl ?_
    refine im_cWv (S := []) (fun _ hv => cpV (fr' := 3) (lo' := 64) (i := 27) (As := []) (S := []) (a := t) (c := 11) rfl lk_M_257 mw_M_next mv_M_next rfl ⟨by decide, rfl⟩ rfl rfl rfl (gd_some hv).1 (sp_M_next G hv)) (fun M8 => ?_)
    refine im_less [some (.ref t), none] (by simp [lv_le]) ?_
    refine li_M_loadProgram_51 G M _ t ?_ fu_L M8
    · intro M10
      show im_I mi_M_loadProgram 9 260 G M sw_i (_) 80 [some (.ref t), none] [] M10
      refine im_aload_n 41 80 rfl rfl ?_
      refine im_getI 42 81 rfl fd_M_245 (by decide +kernel) (fun x5 => ?_)
      refine im_jp (fun j91 => ∀  (M11 : mm_T), im_I mi_M_loadProgram 9 260 G M sw_i (j91 M11) 91 [some (.ref t), none] [] M11) ?_ (fun j91 hj91 => ?_)
      · intro M11
        show im_I mi_M_loadProgram 9 260 G M sw_i (_) 91 [some (.ref t), none] [] M11
        refine im_aload_n 46 91 rfl rfl ?_
        refine im_iconst 47 92 rfl rfl ?_
        refine im_putI 48 93 rfl fd_M_58 (Or.inl (by decide +kernel)) (by decide +kernel) (fun M12 => ?_)
        refine im_aload_n 49 96 rfl rfl ?_
        refine im_iconst 50 97 rfl rfl ?_
        refine im_putI 51 98 rfl fd_M_226 (Or.inl (by decide +kernel)) (by decide +kernel) (fun M13 => ?_)
        refine im_aload_n 52 101 rfl rfl ?_
        refine im_getI 53 102 rfl fd_M_245 (by decide +kernel) (fun x6 => ?_)
        refine im_if_eq 54 105 110 rfl (by decide) ?_ ?_
        · refine im_aload_n 57 110 rfl rfl ?_
          refine im_bipush 58 111 rfl rfl ?_
          refine im_iconst 59 113 rfl rfl ?_
          refine im_cWv (S := []) (fun _ hv => cpV (fr' := 1) (lo' := 20) (i := 60) (As := [.int (9 : Int32), .int (0 : Int32)]) (S := []) (a := t) (c := 11) rfl lk_M_323 mw_M_copies mv_M_copies rfl ⟨by decide, rfl⟩ rfl rfl rfl (gd_some hv).1 (sp_M_copies G hv)) (fun M14 => ?_)
          refine im_aload_n 61 117 rfl rfl ?_
          refine im_iconst 62 118 rfl rfl ?_
          refine im_putI 63 119 rfl fd_M_326 (Or.inl (by decide +kernel)) (by decide +kernel) (fun M15 => ?_)
          refine im_aload_n 64 122 rfl rfl ?_
          refine im_iconst 65 123 rfl rfl ?_
          refine im_ci (S := []) (fun _ hv => cpV (fr' := 1) (lo' := 20) (i := 66) (As := [.int (0 : Int32)]) (S := []) (a := t) (c := 11) rfl lk_M_61 mw_M_get mv_M_get rfl ⟨by decide, rfl⟩ rfl rfl rfl (gd_some hv).1 (sp_M_get G hv)) (fun x7 => ?_)
          exact im_end rfl (wp_ireturn 67 127 rfl rfl)
        · refine im_iconst 55 108 rfl rfl ?_
          exact im_end rfl (wp_ireturn 56 109 rfl rfl)
      refine im_if_ne 43 84 91 rfl (by decide) ?_ ?_
      · exact im_less _ (by simp [lv_le]) (hj91 M10)
      · refine im_aload_n 44 87 rfl rfl ?_
        refine im_cWv (S := []) (fun _ hv => cpV (fr' := 4) (lo' := 85) (i := 45) (As := []) (S := []) (a := t) (c := 11) rfl lk_M_320 mw_M_checksWays mv_M_checksWays rfl ⟨by decide, rfl⟩ rfl rfl rfl (gd_some hv).1 (sp_M_checksWays G hv)) (fun M16 => ?_)
        exact im_less _ (by simp [lv_le]) (hj91 M16)

theorem sp_M_loadProgram (G : gl_T) {t : Nat} {M : mm_T} {y : Int32 × mm_T} (h : ff_M_loadProgram t M = some y) : sp_S mi_M_loadProgram 9 260 G [.ref t] M (sw_i y).1 (sw_i y).2 := sp_of mo_M_loadProgram mw_M_loadProgram (Or.inl (by decide +kernel)) rfl rfl (Or.inl rfl) (ip_M_loadProgram G t M y h)

set_option maxRecDepth 100000 in
set_option maxHeartbeats 4000000 in
theorem ip_M_errorCode (G : gl_T) (t : Nat) (M : mm_T) : im_I mi_M_errorCode 1 20 G M sw_i (ff_M_errorCode t M) 0 [some (.ref t)] [] M := by
  unfold ff_M_errorCode
  refine im_gd (fun hg => ?_)
  refine im_aload_n 0 0 rfl rfl ?_
  refine im_iconst 1 1 rfl rfl ?_
  refine im_putI 2 2 rfl fd_M_55 (Or.inl (by decide +kernel)) (by decide +kernel) (fun M1 => ?_)
  refine im_aload_n 3 5 rfl rfl ?_
  refine im_getI 4 6 rfl fd_M_245 (by decide +kernel) (fun x1 => ?_)
  exact im_end rfl (wp_ireturn 5 9 rfl rfl)

theorem sp_M_errorCode (G : gl_T) {t : Nat} {M : mm_T} {y : Int32 × mm_T} (h : ff_M_errorCode t M = some y) : sp_S mi_M_errorCode 1 20 G [.ref t] M (sw_i y).1 (sw_i y).2 := sp_of mo_M_errorCode mw_M_errorCode (Or.inl (by decide +kernel)) rfl rfl (Or.inl rfl) (ip_M_errorCode G t M y h)

set_option maxRecDepth 100000 in
set_option maxHeartbeats 4000000 in
theorem ip_M_errorPosition (G : gl_T) (t : Nat) (M : mm_T) : im_I mi_M_errorPosition 1 20 G M sw_i (ff_M_errorPosition t M) 0 [some (.ref t)] [] M := by
  unfold ff_M_errorPosition
  refine im_gd (fun hg => ?_)
  refine im_aload_n 0 0 rfl rfl ?_
  refine im_iconst 1 1 rfl rfl ?_
  refine im_putI 2 2 rfl fd_M_55 (Or.inl (by decide +kernel)) (by decide +kernel) (fun M1 => ?_)
  refine im_aload_n 3 5 rfl rfl ?_
  refine im_getI 4 6 rfl fd_M_35 (by decide +kernel) (fun x1 => ?_)
  exact im_end rfl (wp_ireturn 5 9 rfl rfl)

theorem sp_M_errorPosition (G : gl_T) {t : Nat} {M : mm_T} {y : Int32 × mm_T} (h : ff_M_errorPosition t M = some y) : sp_S mi_M_errorPosition 1 20 G [.ref t] M (sw_i y).1 (sw_i y).2 := sp_of mo_M_errorPosition mw_M_errorPosition (Or.inl (by decide +kernel)) rfl rfl (Or.inl rfl) (ip_M_errorPosition G t M y h)

set_option maxRecDepth 100000 in
set_option maxHeartbeats 4000000 in
theorem ip_M_isBlock (G : gl_T) (t : Nat) (a1 : Int32) (M : mm_T) : im_I mi_M_isBlock 2 42 G M sw_i (ff_M_isBlock t a1 M) 0 [some (.ref t), some (.int a1)] [] M := by
  unfold ff_M_isBlock
  refine im_gd (fun hg => ?_)
  refine im_aload_n 0 0 rfl rfl ?_
  refine im_iconst 1 1 rfl rfl ?_
  refine im_putI 2 2 rfl fd_M_55 (Or.inl (by decide +kernel)) (by decide +kernel) (fun M1 => ?_)
  refine im_iload_n 3 5 rfl rfl ?_
  refine im_iconst 4 6 rfl rfl ?_
  refine im_aload_n 5 7 rfl rfl ?_
  refine im_iconst 6 8 rfl rfl ?_
  refine im_ci (S := [.int (0 : Int32), .int a1]) (fun _ hv => cpV (fr' := 1) (lo' := 20) (i := 7) (As := [.int (0 : Int32)]) (S := [.int (0 : Int32), .int a1]) (a := t) (c := 11) rfl lk_M_61 mw_M_get mv_M_get rfl ⟨by decide, rfl⟩ rfl rfl rfl (gd_some hv).1 (sp_M_get G hv)) (fun x1 => ?_)
  refine im_iconst 8 12 rfl rfl ?_
  refine im_isub 9 13 rfl ?_
  refine im_ci (S := []) (fun _ hv => cpS (fr' := 1) (lo' := 20) (i := 10) (As := [.int a1, .int (0 : Int32), .int (x1 - (1 : Int32))]) (S := []) rfl lk_M_124 mw_M_in mv_M_in rfl rfl rfl rfl (sp_M_in G hv)) (fun x2 => ?_)
  refine im_if_eq 11 17 22 rfl (by decide) ?_ ?_
  · refine im_aload_n 14 22 rfl rfl ?_
    refine im_iconst 15 23 rfl rfl ?_
    refine im_putI 16 24 rfl fd_M_55 (Or.inl (by decide +kernel)) (by decide +kernel) (fun M2 => ?_)
    refine im_iconst 17 27 rfl rfl ?_
    exact im_end rfl (wp_zreturn 18 28 (ty := .boolean) rfl (by first | exact nz_0 | exact nz_1) rfl)
  · refine im_iconst 12 20 rfl rfl ?_
    exact im_end rfl (wp_zreturn 13 21 (ty := .boolean) rfl (by first | exact nz_0 | exact nz_1) rfl)

theorem sp_M_isBlock (G : gl_T) {t : Nat} {a1 : Int32} {M : mm_T} {y : Int32 × mm_T} (h : ff_M_isBlock t a1 M = some y) : sp_S mi_M_isBlock 2 42 G [.ref t, .int a1] M (sw_i y).1 (sw_i y).2 := sp_of mo_M_isBlock mw_M_isBlock (Or.inl (by decide +kernel)) rfl rfl (Or.inl rfl) (ip_M_isBlock G t a1 M y h)

set_option maxRecDepth 100000 in
set_option maxHeartbeats 4000000 in
theorem ip_M_isItem (G : gl_T) (t : Nat) (a1 : Int32) (M : mm_T) : im_I mi_M_isItem 2 42 G M sw_i (ff_M_isItem t a1 M) 0 [some (.ref t), some (.int a1)] [] M := by
  unfold ff_M_isItem
  refine im_gd (fun hg => ?_)
  refine im_aload_n 0 0 rfl rfl ?_
  refine im_iconst 1 1 rfl rfl ?_
  refine im_putI 2 2 rfl fd_M_55 (Or.inl (by decide +kernel)) (by decide +kernel) (fun M1 => ?_)
  refine im_iload_n 3 5 rfl rfl ?_
  refine im_iconst 4 6 rfl rfl ?_
  refine im_aload_n 5 7 rfl rfl ?_
  refine im_iconst 6 8 rfl rfl ?_
  refine im_ci (S := [.int (0 : Int32), .int a1]) (fun _ hv => cpV (fr' := 1) (lo' := 20) (i := 7) (As := [.int (1 : Int32)]) (S := [.int (0 : Int32), .int a1]) (a := t) (c := 11) rfl lk_M_61 mw_M_get mv_M_get rfl ⟨by decide, rfl⟩ rfl rfl rfl (gd_some hv).1 (sp_M_get G hv)) (fun x1 => ?_)
  refine im_iconst 8 12 rfl rfl ?_
  refine im_isub 9 13 rfl ?_
  refine im_ci (S := []) (fun _ hv => cpS (fr' := 1) (lo' := 20) (i := 10) (As := [.int a1, .int (0 : Int32), .int (x1 - (1 : Int32))]) (S := []) rfl lk_M_124 mw_M_in mv_M_in rfl rfl rfl rfl (sp_M_in G hv)) (fun x2 => ?_)
  refine im_if_eq 11 17 22 rfl (by decide) ?_ ?_
  · refine im_aload_n 14 22 rfl rfl ?_
    refine im_iconst 15 23 rfl rfl ?_
    refine im_putI 16 24 rfl fd_M_55 (Or.inl (by decide +kernel)) (by decide +kernel) (fun M2 => ?_)
    refine im_iconst 17 27 rfl rfl ?_
    exact im_end rfl (wp_zreturn 18 28 (ty := .boolean) rfl (by first | exact nz_0 | exact nz_1) rfl)
  · refine im_iconst 12 20 rfl rfl ?_
    exact im_end rfl (wp_zreturn 13 21 (ty := .boolean) rfl (by first | exact nz_0 | exact nz_1) rfl)

theorem sp_M_isItem (G : gl_T) {t : Nat} {a1 : Int32} {M : mm_T} {y : Int32 × mm_T} (h : ff_M_isItem t a1 M = some y) : sp_S mi_M_isItem 2 42 G [.ref t, .int a1] M (sw_i y).1 (sw_i y).2 := sp_of mo_M_isItem mw_M_isItem (Or.inl (by decide +kernel)) rfl rfl (Or.inl rfl) (ip_M_isItem G t a1 M y h)

set_option maxRecDepth 100000 in
set_option maxHeartbeats 4000000 in
theorem ip_M_isVariable (G : gl_T) (t : Nat) (a1 : Int32) (a2 : Int32) (M : mm_T) : im_I mi_M_isVariable 2 42 G M sw_i (ff_M_isVariable t a1 a2 M) 0 [some (.ref t), some (.int a1), some (.int a2)] [] M := by
  unfold ff_M_isVariable
  refine im_gd (fun hg => ?_)
  refine im_iload_n 0 0 rfl rfl ?_
  refine im_iconst 1 1 rfl rfl ?_
  refine im_bipush 2 2 rfl rfl ?_
  refine im_ci (S := []) (fun _ hv => cpS (fr' := 1) (lo' := 20) (i := 3) (As := [.int a1, .int (0 : Int32), .int (7 : Int32)]) (S := []) rfl lk_M_124 mw_M_in mv_M_in rfl rfl rfl rfl (sp_M_in G hv)) (fun x1 => ?_)
  refine im_if_eq 4 7 12 rfl (by decide) ?_ ?_
  · refine im_aload_n 7 12 rfl rfl ?_
    refine im_iload_n 8 13 rfl rfl ?_
    refine im_putI 9 14 rfl fd_M_55 (Or.inl (by decide +kernel)) (by decide +kernel) (fun M1 => ?_)
    refine im_iconst 10 17 rfl rfl ?_
    exact im_end rfl (wp_zreturn 11 18 (ty := .boolean) rfl (by first | exact nz_0 | exact nz_1) rfl)
  · refine im_iconst 5 10 rfl rfl ?_
    exact im_end rfl (wp_zreturn 6 11 (ty := .boolean) rfl (by first | exact nz_0 | exact nz_1) rfl)

theorem sp_M_isVariable (G : gl_T) {t : Nat} {a1 : Int32} {a2 : Int32} {M : mm_T} {y : Int32 × mm_T} (h : ff_M_isVariable t a1 a2 M = some y) : sp_S mi_M_isVariable 2 42 G [.ref t, .int a1, .int a2] M (sw_i y).1 (sw_i y).2 := sp_of mo_M_isVariable mw_M_isVariable (Or.inl (by decide +kernel)) rfl rfl (Or.inl rfl) (ip_M_isVariable G t a1 a2 M y h)

set_option maxRecDepth 100000 in
set_option maxHeartbeats 4000000 in
theorem ip_M_blockCount (G : gl_T) (t : Nat) (M : mm_T) : im_I mi_M_blockCount 2 41 G M sw_i (ff_M_blockCount t M) 0 [some (.ref t)] [] M := by
  unfold ff_M_blockCount
  refine im_gd (fun hg => ?_)
  refine im_aload_n 0 0 rfl rfl ?_
  refine im_iconst 1 1 rfl rfl ?_
  refine im_putI 2 2 rfl fd_M_55 (Or.inl (by decide +kernel)) (by decide +kernel) (fun M1 => ?_)
  refine im_aload_n 3 5 rfl rfl ?_
  refine im_iconst 4 6 rfl rfl ?_
  refine im_ci (S := []) (fun _ hv => cpV (fr' := 1) (lo' := 20) (i := 5) (As := [.int (0 : Int32)]) (S := []) (a := t) (c := 11) rfl lk_M_61 mw_M_get mv_M_get rfl ⟨by decide, rfl⟩ rfl rfl rfl (gd_some hv).1 (sp_M_get G hv)) (fun x1 => ?_)
  exact im_end rfl (wp_ireturn 6 10 rfl rfl)

theorem sp_M_blockCount (G : gl_T) {t : Nat} {M : mm_T} {y : Int32 × mm_T} (h : ff_M_blockCount t M = some y) : sp_S mi_M_blockCount 2 41 G [.ref t] M (sw_i y).1 (sw_i y).2 := sp_of mo_M_blockCount mw_M_blockCount (Or.inl (by decide +kernel)) rfl rfl (Or.inl rfl) (ip_M_blockCount G t M y h)

set_option maxRecDepth 100000 in
set_option maxHeartbeats 4000000 in
theorem ip_M_instructionCount (G : gl_T) (t : Nat) (M : mm_T) : im_I mi_M_instructionCount 2 41 G M sw_i (ff_M_instructionCount t M) 0 [some (.ref t)] [] M := by
  unfold ff_M_instructionCount
  refine im_gd (fun hg => ?_)
  refine im_aload_n 0 0 rfl rfl ?_
  refine im_iconst 1 1 rfl rfl ?_
  refine im_putI 2 2 rfl fd_M_55 (Or.inl (by decide +kernel)) (by decide +kernel) (fun M1 => ?_)
  refine im_aload_n 3 5 rfl rfl ?_
  refine im_iconst 4 6 rfl rfl ?_
  refine im_ci (S := []) (fun _ hv => cpV (fr' := 1) (lo' := 20) (i := 5) (As := [.int (1 : Int32)]) (S := []) (a := t) (c := 11) rfl lk_M_61 mw_M_get mv_M_get rfl ⟨by decide, rfl⟩ rfl rfl rfl (gd_some hv).1 (sp_M_get G hv)) (fun x1 => ?_)
  exact im_end rfl (wp_ireturn 6 10 rfl rfl)

theorem sp_M_instructionCount (G : gl_T) {t : Nat} {M : mm_T} {y : Int32 × mm_T} (h : ff_M_instructionCount t M = some y) : sp_S mi_M_instructionCount 2 41 G [.ref t] M (sw_i y).1 (sw_i y).2 := sp_of mo_M_instructionCount mw_M_instructionCount (Or.inl (by decide +kernel)) rfl rfl (Or.inl rfl) (ip_M_instructionCount G t M y h)

set_option maxRecDepth 100000 in
set_option maxHeartbeats 4000000 in
theorem ip_M_instructionsIn (G : gl_T) (t : Nat) (a1 : Int32) (M : mm_T) : im_I mi_M_instructionsIn 3 63 G M sw_i (ff_M_instructionsIn t a1 M) 0 [some (.ref t), some (.int a1)] [] M := by
  unfold ff_M_instructionsIn
  refine im_gd (fun hg => ?_)
  refine im_aload_n 0 0 rfl rfl ?_
  refine im_iload_n 1 1 rfl rfl ?_
  refine im_cWi (S := []) (fun _ _ hv => cpV (fr' := 2) (lo' := 42) (i := 2) (As := [.int a1]) (S := []) (a := t) (c := 11) rfl lk_M_329 mw_M_isBlock mv_M_isBlock rfl ⟨by decide, rfl⟩ rfl rfl rfl (gd_some hv).1 (sp_M_isBlock G hv)) (fun x1 M1 => ?_)
  refine im_if_ne 3 5 10 rfl (by decide) ?_ ?_
  · refine im_aload_n 6 10 rfl rfl ?_
    refine im_iload_n 7 11 rfl rfl ?_
    refine im_iconst 8 12 rfl rfl ?_
    refine im_ci (S := []) (fun _ hv => cpV (fr' := 2) (lo' := 41) (i := 9) (As := [.int a1, .int (0 : Int32)]) (S := []) (a := t) (c := 11) rfl lk_M_80 mw_M_bl mv_M_bl rfl ⟨by decide, rfl⟩ rfl rfl rfl (gd_some hv).1 (sp_M_bl G hv)) (fun x2 => ?_)
    exact im_end rfl (wp_ireturn 10 16 rfl rfl)
  · refine im_iconst 4 8 rfl rfl ?_
    exact im_end rfl (wp_ireturn 5 9 rfl rfl)

theorem sp_M_instructionsIn (G : gl_T) {t : Nat} {a1 : Int32} {M : mm_T} {y : Int32 × mm_T} (h : ff_M_instructionsIn t a1 M = some y) : sp_S mi_M_instructionsIn 3 63 G [.ref t, .int a1] M (sw_i y).1 (sw_i y).2 := sp_of mo_M_instructionsIn mw_M_instructionsIn (Or.inl (by decide +kernel)) rfl rfl (Or.inl rfl) (ip_M_instructionsIn G t a1 M y h)

set_option maxRecDepth 100000 in
set_option maxHeartbeats 4000000 in
theorem ip_M_blockOf (G : gl_T) (t : Nat) (a1 : Int32) (M : mm_T) : im_I mi_M_blockOf 6 129 G M sw_i (ff_M_blockOf t a1 M) 0 [some (.ref t), some (.int a1)] [] M := by
  unfold ff_M_blockOf
  refine im_gd (fun hg => ?_)
  refine im_aload_n 0 0 rfl rfl ?_
  refine im_iload_n 1 1 rfl rfl ?_
  refine im_cWi (S := []) (fun _ _ hv => cpV (fr' := 2) (lo' := 42) (i := 2) (As := [.int a1]) (S := []) (a := t) (c := 11) rfl lk_M_332 mw_M_isItem mv_M_isItem rfl ⟨by decide, rfl⟩ rfl rfl rfl (gd_some hv).1 (sp_M_isItem G hv)) (fun x1 M1 => ?_)
  refine im_if_ne 3 5 10 rfl (by decide) ?_ ?_
  · refine im_aload_n 6 10 rfl rfl ?_
    refine im_iload_n 7 11 rfl rfl ?_
    refine im_ci (S := []) (fun _ hv => cpV (fr' := 5) (lo' := 107) (i := 8) (As := [.int a1]) (S := []) (a := t) (c := 11) rfl lk_M_121 mw_M_blockAt mv_M_blockAt rfl ⟨by decide, rfl⟩ rfl rfl rfl (gd_some hv).1 (sp_M_blockAt G hv)) (fun x2 => ?_)
    exact im_end rfl (wp_ireturn 9 15 rfl rfl)
  · refine im_iconst 4 8 rfl rfl ?_
    exact im_end rfl (wp_ireturn 5 9 rfl rfl)

theorem sp_M_blockOf (G : gl_T) {t : Nat} {a1 : Int32} {M : mm_T} {y : Int32 × mm_T} (h : ff_M_blockOf t a1 M = some y) : sp_S mi_M_blockOf 6 129 G [.ref t, .int a1] M (sw_i y).1 (sw_i y).2 := sp_of mo_M_blockOf mw_M_blockOf (Or.inl (by decide +kernel)) rfl rfl (Or.inl rfl) (ip_M_blockOf G t a1 M y h)

set_option maxRecDepth 100000 in
set_option maxHeartbeats 4000000 in
theorem ip_M_kindOf (G : gl_T) (t : Nat) (a1 : Int32) (M : mm_T) : im_I mi_M_kindOf 3 63 G M sw_i (ff_M_kindOf t a1 M) 0 [some (.ref t), some (.int a1)] [] M := by
  unfold ff_M_kindOf
  refine im_gd (fun hg => ?_)
  refine im_aload_n 0 0 rfl rfl ?_
  refine im_iload_n 1 1 rfl rfl ?_
  refine im_cWi (S := []) (fun _ _ hv => cpV (fr' := 2) (lo' := 42) (i := 2) (As := [.int a1]) (S := []) (a := t) (c := 11) rfl lk_M_332 mw_M_isItem mv_M_isItem rfl ⟨by decide, rfl⟩ rfl rfl rfl (gd_some hv).1 (sp_M_isItem G hv)) (fun x1 M1 => ?_)
  refine im_if_ne 3 5 10 rfl (by decide) ?_ ?_
  · refine im_aload_n 6 10 rfl rfl ?_
    refine im_iload_n 7 11 rfl rfl ?_
    refine im_iconst 8 12 rfl rfl ?_
    refine im_ci (S := []) (fun _ hv => cpV (fr' := 2) (lo' := 41) (i := 9) (As := [.int a1, .int (0 : Int32)]) (S := []) (a := t) (c := 11) rfl lk_M_96 mw_M_it mv_M_it rfl ⟨by decide, rfl⟩ rfl rfl rfl (gd_some hv).1 (sp_M_it G hv)) (fun x2 => ?_)
    exact im_end rfl (wp_ireturn 10 16 rfl rfl)
  · refine im_iconst 4 8 rfl rfl ?_
    exact im_end rfl (wp_ireturn 5 9 rfl rfl)

theorem sp_M_kindOf (G : gl_T) {t : Nat} {a1 : Int32} {M : mm_T} {y : Int32 × mm_T} (h : ff_M_kindOf t a1 M = some y) : sp_S mi_M_kindOf 3 63 G [.ref t, .int a1] M (sw_i y).1 (sw_i y).2 := sp_of mo_M_kindOf mw_M_kindOf (Or.inl (by decide +kernel)) rfl rfl (Or.inl rfl) (ip_M_kindOf G t a1 M y h)

set_option maxRecDepth 100000 in
set_option maxHeartbeats 4000000 in
theorem ip_M_successor (G : gl_T) (t : Nat) (a1 : Int32) (a2 : Int32) (M : mm_T) : im_I mi_M_successor 4 85 G M sw_i (ff_M_successor t a1 a2 M) 0 [some (.ref t), some (.int a1), some (.int a2)] [] M := by
  unfold ff_M_successor
  refine im_gd (fun hg => ?_)
  refine im_aload_n 0 0 rfl rfl ?_
  refine im_iload_n 1 1 rfl rfl ?_
  refine im_cWi (S := []) (fun _ _ hv => cpV (fr' := 2) (lo' := 42) (i := 2) (As := [.int a1]) (S := []) (a := t) (c := 11) rfl lk_M_329 mw_M_isBlock mv_M_isBlock rfl ⟨by decide, rfl⟩ rfl rfl rfl (gd_some hv).1 (sp_M_isBlock G hv)) (fun x1 M1 => ?_)
  refine im_if_ne 3 5 10 rfl (by decide) ?_ ?_
  · refine im_iload_n 6 10 rfl rfl ?_
    refine im_jp (fun j23 => im_I mi_M_successor 4 85 G M sw_i (j23) 23 [some (.ref t), none, none] [] M1) ?_ (fun j23 hj23 => ?_)
    · show im_I mi_M_successor 4 85 G M sw_i (_) 23 [some (.ref t), none, none] [] M1
      refine im_aload_n 13 23 rfl rfl ?_
      refine im_iconst 14 24 rfl rfl ?_
      refine im_putI 15 25 rfl fd_M_55 (Or.inl (by decide +kernel)) (by decide +kernel) (fun M2 => ?_)
      refine im_iconst 16 28 rfl rfl ?_
      exact im_end rfl (wp_ireturn 17 29 rfl rfl)
    refine im_if_lt 7 11 23 rfl (by decide) ?_ ?_
    · exact im_less _ (by simp [lv_le]) (hj23)
    · refine im_iload_n 8 14 rfl rfl ?_
      refine im_aload_n 9 15 rfl rfl ?_
      refine im_iload_n 10 16 rfl rfl ?_
      refine im_ci (S := [.int a2]) (fun _ hv => cpV (fr' := 3) (lo' := 63) (i := 11) (As := [.int a1]) (S := [.int a2]) (a := t) (c := 11) rfl lk_M_90 mw_M_ways mv_M_ways rfl ⟨by decide, rfl⟩ rfl rfl rfl (gd_some hv).1 (sp_M_ways G hv)) (fun x2 => ?_)
      refine im_ic_lt 12 20 30 rfl (by decide) ?_ ?_
      · refine im_aload_n 18 30 rfl rfl ?_
        refine im_iload_n 19 31 rfl rfl ?_
        refine im_iload_n 20 32 rfl rfl ?_
        refine im_ci (S := []) (fun _ hv => cpV (fr' := 3) (lo' := 63) (i := 21) (As := [.int a1, .int a2]) (S := []) (a := t) (c := 11) rfl lk_M_93 mw_M_way mv_M_way rfl ⟨by decide, rfl⟩ rfl rfl rfl (gd_some hv).1 (sp_M_way G hv)) (fun x3 => ?_)
        exact im_end rfl (wp_ireturn 22 36 rfl rfl)
      · exact im_less _ (by simp [lv_le]) (hj23)
  · refine im_iconst 4 8 rfl rfl ?_
    exact im_end rfl (wp_ireturn 5 9 rfl rfl)

theorem sp_M_successor (G : gl_T) {t : Nat} {a1 : Int32} {a2 : Int32} {M : mm_T} {y : Int32 × mm_T} (h : ff_M_successor t a1 a2 M = some y) : sp_S mi_M_successor 4 85 G [.ref t, .int a1, .int a2] M (sw_i y).1 (sw_i y).2 := sp_of mo_M_successor mw_M_successor (Or.inl (by decide +kernel)) rfl rfl (Or.inl rfl) (ip_M_successor G t a1 a2 M y h)

set_option maxRecDepth 100000 in
set_option maxHeartbeats 4000000 in
theorem li_M_predecessors_14 (G : gl_T) (M0 : mm_T) (p0 : Nat) (p1 : Int32) (M : mm_T) : ∀ (fu : Nat) (q2 : Int32) (q3 : Int32), im_I mi_M_predecessors 5 108 G M0 sw_i (lf_M_predecessors_14 p0 p1 M fu q2 q3) 14 [some (.ref p0), some (.int p1), some (.int q2), some (.int q3)] [] M := by
  intro fu
  induction fu with
  | zero => intro _ _; exact im_none
  | succ fu ih =>
    intro q2 q3
    show im_I mi_M_predecessors 5 108 G M0 sw_i (lb_M_predecessors_14 p0 p1 M (lf_M_predecessors_14 p0 p1 M fu) q2 q3) 14 [some (.ref p0), some (.int p1), some (.int q2), some (.int q3)] [] M
    unfold lb_M_predecessors_14
    refine im_iload_n 10 14 rfl rfl ?_
    refine im_aload_n 11 15 rfl rfl ?_
    refine im_iconst 12 16 rfl rfl ?_
    refine im_ci (S := [.int q3]) (fun _ hv => cpV (fr' := 1) (lo' := 20) (i := 13) (As := [.int (0 : Int32)]) (S := [.int q3]) (a := p0) (c := 11) rfl lk_M_61 mw_M_get mv_M_get rfl ⟨by decide, rfl⟩ rfl rfl rfl (gd_some hv).1 (sp_M_get G hv)) (fun x2 => ?_)
    refine im_ic_ge 14 20 41 rfl (by decide) ?_ ?_
    · refine im_iload_n 25 41 rfl rfl ?_
      exact im_end rfl (wp_ireturn 26 42 rfl rfl)
    · refine im_iload_n 15 23 rfl rfl ?_
      refine im_aload_n 16 24 rfl rfl ?_
      refine im_iload_n 17 25 rfl rfl ?_
      refine im_iload_n 18 26 rfl rfl ?_
      refine im_ci (S := [.int q2]) (fun _ hv => cpV (fr' := 4) (lo' := 85) (i := 19) (As := [.int q3, .int p1]) (S := [.int q2]) (a := p0) (c := 11) rfl lk_M_172 mw_M_leads mv_M_leads rfl ⟨by decide, rfl⟩ rfl rfl rfl (gd_some hv).1 (sp_M_leads G hv)) (fun x3 => ?_)
      refine im_ci (S := [.int q2]) (fun _ hv => cpS (fr' := 1) (lo' := 20) (i := 20) (As := [.int x3]) (S := [.int q2]) rfl lk_M_117 mw_M_one mv_M_one rfl rfl rfl rfl (sp_M_one G hv)) (fun x4 => ?_)
      refine im_iadd 21 33 rfl ?_
      refine im_letI (fun x5 => ?_)
      refine im_istore_n 22 34 [some (.ref p0), some (.int p1), some (.int x5), some (.int q3)] rfl rfl rfl ?_
      refine im_iincL 23 35 (fun x6 => [some (.ref p0), some (.int p1), some (.int x5), some (.int x6)]) rfl rfl rfl rfl (fun _ => rfl) (fun x6 => ?_)
      refine im_goto 24 38 14 rfl (by decide) ?_
      exact im_less _ (by simp [lv_le]) (ih x5 x6)

set_option maxRecDepth 100000 in
set_option maxHeartbeats 4000000 in
theorem ip_M_predecessors (G : gl_T) (t : Nat) (a1 : Int32) (M : mm_T) : im_I mi_M_predecessors 5 108 G M sw_i (ff_M_predecessors t a1 M) 0 [some (.ref t), some (.int a1), none, none] [] M := by
  unfold ff_M_predecessors
  refine im_gd (fun hg => ?_)
  refine im_aload_n 0 0 rfl rfl ?_
  refine im_iload_n 1 1 rfl rfl ?_
  refine im_cWi (S := []) (fun _ _ hv => cpV (fr' := 2) (lo' := 42) (i := 2) (As := [.int a1]) (S := []) (a := t) (c := 11) rfl lk_M_329 mw_M_isBlock mv_M_isBlock rfl ⟨by decide, rfl⟩ rfl rfl rfl (gd_some hv).1 (sp_M_isBlock G hv)) (fun x1 M1 => ?_)
  refine im_if_ne 3 5 10 rfl (by decide) ?_ ?_
  · refine im_iconst 6 10 rfl rfl ?_
    refine im_istore_n 7 11 [some (.ref t), some (.int a1), some (.int (0 : Int32)), none] rfl rfl rfl ?_
    refine im_iconst 8 12 rfl rfl ?_
    refine im_istore_n 9 13 [some (.ref t), some (.int a1), some (.int (0 : Int32)), some (.int (0 : Int32))] rfl rfl rfl ?_
    refine im_less [some (.ref t), some (.int a1), some (.int (0 : Int32)), some (.int (0 : Int32))] (by simp [lv_le]) ?_
    exact li_M_predecessors_14 G M t a1 M1 fu_L (0 : Int32) (0 : Int32)
  · refine im_iconst 4 8 rfl rfl ?_
    exact im_end rfl (wp_ireturn 5 9 rfl rfl)

theorem sp_M_predecessors (G : gl_T) {t : Nat} {a1 : Int32} {M : mm_T} {y : Int32 × mm_T} (h : ff_M_predecessors t a1 M = some y) : sp_S mi_M_predecessors 5 108 G [.ref t, .int a1] M (sw_i y).1 (sw_i y).2 := sp_of mo_M_predecessors mw_M_predecessors (Or.inl (by decide +kernel)) rfl rfl (Or.inl rfl) (ip_M_predecessors G t a1 M y h)

set_option maxRecDepth 100000 in
set_option maxHeartbeats 4000000 in
theorem ip_M_isReachable (G : gl_T) (t : Nat) (a1 : Int32) (M : mm_T) : im_I mi_M_isReachable 21 488 G M sw_i (ff_M_isReachable t a1 M) 0 [some (.ref t), some (.int a1)] [] M := by
  unfold ff_M_isReachable
  refine im_gd (fun hg => ?_)
  refine im_aload_n 0 0 rfl rfl ?_
  refine im_iload_n 1 1 rfl rfl ?_
  refine im_cWi (S := []) (fun _ _ hv => cpV (fr' := 2) (lo' := 42) (i := 2) (As := [.int a1]) (S := []) (a := t) (c := 11) rfl lk_M_329 mw_M_isBlock mv_M_isBlock rfl ⟨by decide, rfl⟩ rfl rfl rfl (gd_some hv).1 (sp_M_isBlock G hv)) (fun x1 M1 => ?_)
  refine im_if_ne 3 5 10 rfl (by decide) ?_ ?_
  · refine im_aload_n 6 10 rfl rfl ?_
    refine im_iload_n 7 11 rfl rfl ?_
    refine im_iconst 8 12 rfl rfl ?_
    refine im_cWi (S := []) (fun _ _ hv => cpV (fr' := 20) (lo' := 466) (i := 9) (As := [.int a1, .int (-1 : Int32)]) (S := []) (a := t) (c := 11) rfl lk_M_155 mw_M_isReached mv_M_isReached rfl ⟨by decide, rfl⟩ rfl rfl rfl (gd_some hv).1 (sp_M_isReached G hv)) (fun x2 M2 => ?_)
    exact im_endZ (fun _ => rfl) (fun hn => wp_zreturn 10 16 (ty := .boolean) rfl hn rfl)
  · refine im_iconst 4 8 rfl rfl ?_
    exact im_end rfl (wp_zreturn 5 9 (ty := .boolean) rfl (by first | exact nz_0 | exact nz_1) rfl)

theorem sp_M_isReachable (G : gl_T) {t : Nat} {a1 : Int32} {M : mm_T} {y : Int32 × mm_T} (h : ff_M_isReachable t a1 M = some y) : sp_S mi_M_isReachable 21 488 G [.ref t, .int a1] M (sw_i y).1 (sw_i y).2 := sp_of mo_M_isReachable mw_M_isReachable (Or.inl (by decide +kernel)) rfl rfl (Or.inl rfl) (ip_M_isReachable G t a1 M y h)

set_option maxRecDepth 100000 in
set_option maxHeartbeats 4000000 in
theorem li_M_distanceTo_69 (G : gl_T) (M0 : mm_T) (k0 : mm_T → Option (Int32 × mm_T)) (p0 : Nat) (p1 : Int32) (p2 : Nat) (p3 : Int32) (p4 : Nat) (p5 : Int32) (hk0 : ∀ (N : mm_T), im_I mi_M_distanceTo 4 85 G M0 sw_i (k0 N) 105 [some (.ref p0), some (.int p1), some (.ref p2), some (.int p3), some (.ref p4), some (.int p5), none] [] N) : ∀ (fu : Nat) (q6 : Int32) (N : mm_T), im_I mi_M_distanceTo 4 85 G M0 sw_i (lf_M_distanceTo_69 k0 p0 p1 p2 p3 p4 p5 fu q6 N) 69 [some (.ref p0), some (.int p1), some (.ref p2), some (.int p3), some (.ref p4), some (.int p5), some (.int q6)] [] N := by
  intro fu
  induction fu with
  | zero => intro _ _; exact im_none
  | succ fu ih =>
    intro q6 N
    show im_I mi_M_distanceTo 4 85 G M0 sw_i (lb_M_distanceTo_69 k0 p0 p1 p2 p3 p4 p5 (lf_M_distanceTo_69 k0 p0 p1 p2 p3 p4 p5 fu) q6 N) 69 [some (.ref p0), some (.int p1), some (.ref p2), some (.int p3), some (.ref p4), some (.int p5), some (.int q6)] [] N
    unfold lb_M_distanceTo_69
    refine im_iload 45 69 rfl rfl ?_
    refine im_aload_n 46 71 rfl rfl ?_
    refine im_iload 47 72 rfl rfl ?_
    refine im_ci (S := [.int q6]) (fun _ hv => cpV (fr' := 3) (lo' := 63) (i := 48) (As := [.int p5]) (S := [.int q6]) (a := p0) (c := 11) rfl lk_M_90 mw_M_ways mv_M_ways rfl ⟨by decide, rfl⟩ rfl rfl rfl (gd_some hv).1 (sp_M_ways G hv)) (fun x8 => ?_)
    refine im_ic_ge 49 77 105 rfl (by decide) ?_ ?_
    · exact im_less _ (by simp [lv_le]) (hk0 N)
    · refine im_aload_n 50 80 rfl rfl ?_
      refine im_iload 51 81 rfl rfl ?_
      refine im_baload 52 83 rfl (fun x9 => ?_)
      refine im_if_eq 53 84 105 rfl (by decide) ?_ ?_
      · exact im_less _ (by simp [lv_le]) (hk0 N)
      · refine im_aload 54 87 rfl rfl ?_
        refine im_aload_n 55 89 rfl rfl ?_
        refine im_iload 56 90 rfl rfl ?_
        refine im_iload 57 92 rfl rfl ?_
        refine im_ci (S := [.ref p4]) (fun _ hv => cpV (fr' := 3) (lo' := 63) (i := 58) (As := [.int p5, .int q6]) (S := [.ref p4]) (a := p0) (c := 11) rfl lk_M_93 mw_M_way mv_M_way rfl ⟨by decide, rfl⟩ rfl rfl rfl (gd_some hv).1 (sp_M_way G hv)) (fun x10 => ?_)
        refine im_iconst 59 97 rfl rfl ?_
        refine im_bastore 60 98 rfl (fun M6 => ?_)
        refine im_iincL 61 99 (fun x11 => [some (.ref p0), some (.int p1), some (.ref p2), some (.int p3), some (.ref p4), some (.int p5), some (.int x11)]) rfl rfl rfl rfl (fun _ => rfl) (fun x11 => ?_)
        refine im_goto 62 102 69 rfl (by decide) ?_
        exact im_less _ (by simp [lv_le]) (ih x11 M6)

set_option maxRecDepth 100000 in
set_option maxHeartbeats 4000000 in
theorem li_M_distanceTo_44 (G : gl_T) (M0 : mm_T) (k0 : mm_T → Option (Int32 × mm_T)) (p0 : Nat) (p1 : Int32) (p2 : Nat) (p3 : Int32) (p4 : Nat) (hk0 : ∀ (N : mm_T), im_I mi_M_distanceTo 4 85 G M0 sw_i (k0 N) 111 [some (.ref p0), some (.int p1), none, some (.int p3), some (.ref p4), none, none] [] N) : ∀ (fu : Nat) (q5 : Int32) (N : mm_T), im_I mi_M_distanceTo 4 85 G M0 sw_i (lf_M_distanceTo_44 k0 p0 p1 p2 p3 p4 fu q5 N) 44 [some (.ref p0), some (.int p1), some (.ref p2), some (.int p3), some (.ref p4), some (.int q5), none] [] N := by
  intro fu
  induction fu with
  | zero => intro _ _; exact im_none
  | succ fu ih =>
    intro q5 N
    show im_I mi_M_distanceTo 4 85 G M0 sw_i (lb_M_distanceTo_44 k0 p0 p1 p2 p3 p4 (lf_M_distanceTo_44 k0 p0 p1 p2 p3 p4 fu) q5 N) 44 [some (.ref p0), some (.int p1), some (.ref p2), some (.int p3), some (.ref p4), some (.int q5), none] [] N
    unfold lb_M_distanceTo_44
    refine im_iload 29 44 rfl rfl ?_
    refine im_aload_n 30 46 rfl rfl ?_
    refine im_iconst 31 47 rfl rfl ?_
    refine im_ci (S := [.int q5]) (fun _ hv => cpV (fr' := 1) (lo' := 20) (i := 32) (As := [.int (0 : Int32)]) (S := [.int q5]) (a := p0) (c := 11) rfl lk_M_61 mw_M_get mv_M_get rfl ⟨by decide, rfl⟩ rfl rfl rfl (gd_some hv).1 (sp_M_get G hv)) (fun x5 => ?_)
    refine im_ic_ge 33 51 111 rfl (by decide) ?_ ?_
    · exact im_less _ (by simp [lv_le]) (hk0 N)
    · refine im_aload 34 54 rfl rfl ?_
      refine im_iload 35 56 rfl rfl ?_
      refine im_dup2 36 58 rfl rfl rfl ?_
      refine im_baload 37 59 rfl (fun x6 => ?_)
      refine im_aload_n 38 60 rfl rfl ?_
      refine im_iload 39 61 rfl rfl ?_
      refine im_baload 40 63 rfl (fun x7 => ?_)
      refine im_ior 41 64 rfl ?_
      refine im_bastore 42 65 rfl (fun M5 => ?_)
      refine im_iconst 43 66 rfl rfl ?_
      refine im_istore 44 67 [some (.ref p0), some (.int p1), some (.ref p2), some (.int p3), some (.ref p4), some (.int q5), some (.int (0 : Int32))] rfl rfl rfl ?_
      refine im_less [some (.ref p0), some (.int p1), some (.ref p2), some (.int p3), some (.ref p4), some (.int q5), some (.int (0 : Int32))] (by simp [lv_le]) ?_
      refine li_M_distanceTo_69 G M0 _ p0 p1 p2 p3 p4 q5 ?_ fu_L (0 : Int32) M5
      · intro M7
        show im_I mi_M_distanceTo 4 85 G M0 sw_i (_) 105 [some (.ref p0), some (.int p1), some (.ref p2), some (.int p3), some (.ref p4), some (.int q5), none] [] M7
        refine im_iincL 63 105 (fun x12 => [some (.ref p0), some (.int p1), some (.ref p2), some (.int p3), some (.ref p4), some (.int x12), none]) rfl rfl rfl rfl (fun _ => rfl) (fun x12 => ?_)
        refine im_goto 64 108 44 rfl (by decide) ?_
        exact im_less _ (by simp [lv_le]) (ih x12 M7)

set_option maxRecDepth 100000 in
set_option maxHeartbeats 4000000 in
theorem li_M_distanceTo_21 (G : gl_T) (M0 : mm_T) (p0 : Nat) (p1 : Int32) : ∀ (fu : Nat) (q2 : Nat) (q3 : Int32) (N : mm_T), im_I mi_M_distanceTo 4 85 G M0 sw_i (lf_M_distanceTo_21 p0 p1 fu q2 q3 N) 21 [some (.ref p0), some (.int p1), some (.ref q2), some (.int q3), none, none, none] [] N := by
  intro fu
  induction fu with
  | zero => intro _ _ _; exact im_none
  | succ fu ih =>
    intro q2 q3 N
    show im_I mi_M_distanceTo 4 85 G M0 sw_i (lb_M_distanceTo_21 p0 p1 (lf_M_distanceTo_21 p0 p1 fu) q2 q3 N) 21 [some (.ref p0), some (.int p1), some (.ref q2), some (.int q3), none, none, none] [] N
    unfold lb_M_distanceTo_21
    refine im_iload_n 15 21 rfl rfl ?_
    refine im_bipush 16 22 rfl rfl ?_
    refine im_ic_ge 17 24 120 rfl (by decide) ?_ ?_
    · refine im_iconst 69 120 rfl rfl ?_
      exact im_end rfl (wp_ireturn 70 121 rfl rfl)
    · refine im_aload_n 18 27 rfl rfl ?_
      refine im_iload_n 19 28 rfl rfl ?_
      refine im_baload 20 29 rfl (fun x3 => ?_)
      refine im_if_eq 21 30 35 rfl (by decide) ?_ ?_
      · refine im_bipush 24 35 rfl rfl ?_
        refine im_newZ 25 37 rfl (tb_m 1909 (by decide +kernel) rfl) (fun x4 M4 => ?_)
        refine im_astore 26 39 [some (.ref p0), some (.int p1), some (.ref q2), some (.int q3), some (.ref x4), none, none] rfl rfl rfl ?_
        refine im_iconst 27 41 rfl rfl ?_
        refine im_istore 28 42 [some (.ref p0), some (.int p1), some (.ref q2), some (.int q3), some (.ref x4), some (.int (0 : Int32)), none] rfl rfl rfl ?_
        refine im_less [some (.ref p0), some (.int p1), some (.ref q2), some (.int q3), some (.ref x4), some (.int (0 : Int32)), none] (by simp [lv_le]) ?_
        refine li_M_distanceTo_44 G M0 _ p0 p1 q2 q3 x4 ?_ fu_L (0 : Int32) M4
        · intro M8
          show im_I mi_M_distanceTo 4 85 G M0 sw_i (_) 111 [some (.ref p0), some (.int p1), none, some (.int q3), some (.ref x4), none, none] [] M8
          refine im_aload 65 111 rfl rfl ?_
          refine im_astore_n 66 113 [some (.ref p0), some (.int p1), some (.ref x4), some (.int q3), some (.ref x4), none, none] rfl rfl rfl ?_
          refine im_iincL 67 114 (fun x13 => [some (.ref p0), some (.int p1), some (.ref x4), some (.int x13), some (.ref x4), none, none]) rfl rfl rfl rfl (fun _ => rfl) (fun x13 => ?_)
          refine im_goto 68 117 21 rfl (by decide) ?_
          exact im_less _ (by simp [lv_le]) (ih x4 x13 M8)
      · refine im_iload_n 22 33 rfl rfl ?_
        exact im_end rfl (wp_ireturn 23 34 rfl rfl)

set_option maxRecDepth 100000 in
set_option maxHeartbeats 4000000 in
theorem ip_M_distanceTo (G : gl_T) (t : Nat) (a1 : Int32) (M : mm_T) : im_I mi_M_distanceTo 4 85 G M sw_i (ff_M_distanceTo t a1 M) 0 [some (.ref t), some (.int a1), none, none, none, none, none] [] M := by
  unfold ff_M_distanceTo
  refine im_gd (fun hg => ?_)
  refine im_aload_n 0 0 rfl rfl ?_
  refine im_iload_n 1 1 rfl rfl ?_
  refine im_cWi (S := []) (fun _ _ hv => cpV (fr' := 2) (lo' := 42) (i := 2) (As := [.int a1]) (S := []) (a := t) (c := 11) rfl lk_M_329 mw_M_isBlock mv_M_isBlock rfl ⟨by decide, rfl⟩ rfl rfl rfl (gd_some hv).1 (sp_M_isBlock G hv)) (fun x1 M1 => ?_)
  refine im_if_ne 3 5 10 rfl (by decide) ?_ ?_
  · refine im_bipush 6 10 rfl rfl ?_
    refine im_newZ 7 12 rfl (tb_m 1909 (by decide +kernel) rfl) (fun x2 M2 => ?_)
    refine im_astore_n 8 14 [some (.ref t), some (.int a1), some (.ref x2), none, none, none, none] rfl rfl rfl ?_
    refine im_aload_n 9 15 rfl rfl ?_
    refine im_iconst 10 16 rfl rfl ?_
    refine im_iconst 11 17 rfl rfl ?_
    refine im_bastore 12 18 rfl (fun M3 => ?_)
    refine im_iconst 13 19 rfl rfl ?_
    refine im_istore_n 14 20 [some (.ref t), some (.int a1), some (.ref x2), some (.int (0 : Int32)), none, none, none] rfl rfl rfl ?_
    refine im_less [some (.ref t), some (.int a1), some (.ref x2), some (.int (0 : Int32)), none, none, none] (by simp [lv_le]) ?_
    exact li_M_distanceTo_21 G M t a1 fu_L x2 (0 : Int32) M3
  · refine im_iconst 4 8 rfl rfl ?_
    exact im_end rfl (wp_ireturn 5 9 rfl rfl)

theorem sp_M_distanceTo (G : gl_T) {t : Nat} {a1 : Int32} {M : mm_T} {y : Int32 × mm_T} (h : ff_M_distanceTo t a1 M = some y) : sp_S mi_M_distanceTo 4 85 G [.ref t, .int a1] M (sw_i y).1 (sw_i y).2 := sp_of mo_M_distanceTo mw_M_distanceTo (Or.inl (by decide +kernel)) rfl rfl (Or.inl rfl) (ip_M_distanceTo G t a1 M y h)

set_option maxRecDepth 100000 in
set_option maxHeartbeats 4000000 in
theorem ip_M_reaches (G : gl_T) (t : Nat) (a1 : Int32) (a2 : Int32) (M : mm_T) : im_I mi_M_reaches 21 491 G M sw_i (ff_M_reaches t a1 a2 M) 0 [some (.ref t), some (.int a1), some (.int a2)] [] M := by
  unfold ff_M_reaches
  refine im_gd (fun hg => ?_)
  refine im_aload_n 0 0 rfl rfl ?_
  refine im_iload_n 1 1 rfl rfl ?_
  refine im_cWi (S := []) (fun _ _ hv => cpV (fr' := 2) (lo' := 42) (i := 2) (As := [.int a1]) (S := []) (a := t) (c := 11) rfl lk_M_332 mw_M_isItem mv_M_isItem rfl ⟨by decide, rfl⟩ rfl rfl rfl (gd_some hv).1 (sp_M_isItem G hv)) (fun x1 M1 => ?_)
  refine im_if_eq 3 5 16 rfl (by decide) ?_ ?_
  · refine im_iconst 8 16 rfl rfl ?_
    exact im_end rfl (wp_zreturn 9 17 (ty := .boolean) rfl (by first | exact nz_0 | exact nz_1) rfl)
  · refine im_aload_n 4 8 rfl rfl ?_
    refine im_iload_n 5 9 rfl rfl ?_
    refine im_cWi (S := []) (fun _ _ hv => cpV (fr' := 2) (lo' := 42) (i := 6) (As := [.int a2]) (S := []) (a := t) (c := 11) rfl lk_M_329 mw_M_isBlock mv_M_isBlock rfl ⟨by decide, rfl⟩ rfl rfl rfl (gd_some hv).1 (sp_M_isBlock G hv)) (fun x2 M2 => ?_)
    refine im_if_ne 7 13 18 rfl (by decide) ?_ ?_
    · refine im_aload_n 10 18 rfl rfl ?_
      refine im_iload_n 11 19 rfl rfl ?_
      refine im_iload_n 12 20 rfl rfl ?_
      refine im_cWi (S := []) (fun _ _ hv => cpV (fr' := 20) (lo' := 466) (i := 13) (As := [.int a1, .int a2]) (S := []) (a := t) (c := 11) rfl lk_M_127 mw_M_reachesStart mv_M_reachesStart rfl ⟨by decide, rfl⟩ rfl rfl rfl (gd_some hv).1 (sp_M_reachesStart G hv)) (fun x3 M3 => ?_)
      exact im_endZ (fun _ => rfl) (fun hn => wp_zreturn 14 24 (ty := .boolean) rfl hn rfl)
    · refine im_iconst 8 16 rfl rfl ?_
      exact im_end rfl (wp_zreturn 9 17 (ty := .boolean) rfl (by first | exact nz_0 | exact nz_1) rfl)

theorem sp_M_reaches (G : gl_T) {t : Nat} {a1 : Int32} {a2 : Int32} {M : mm_T} {y : Int32 × mm_T} (h : ff_M_reaches t a1 a2 M = some y) : sp_S mi_M_reaches 21 491 G [.ref t, .int a1, .int a2] M (sw_i y).1 (sw_i y).2 := sp_of mo_M_reaches mw_M_reaches (Or.inl (by decide +kernel)) rfl rfl (Or.inl rfl) (ip_M_reaches G t a1 a2 M y h)

set_option maxRecDepth 100000 in
set_option maxHeartbeats 4000000 in
theorem li_M_reachingDefinitions_24 (G : gl_T) (M0 : mm_T) (p0 : Nat) (p1 : Int32) (p2 : Int32) : ∀ (fu : Nat) (q3 : Int32) (q4 : Int32) (N : mm_T), im_I mi_M_reachingDefinitions 21 491 G M0 sw_i (lf_M_reachingDefinitions_24 p0 p1 p2 fu q3 q4 N) 24 [some (.ref p0), some (.int p1), some (.int p2), some (.int q3), some (.int q4)] [] N := by
  intro fu
  induction fu with
  | zero => intro _ _ _; exact im_none
  | succ fu ih =>
    intro q3 q4 N
    show im_I mi_M_reachingDefinitions 21 491 G M0 sw_i (lb_M_reachingDefinitions_24 p0 p1 p2 (lf_M_reachingDefinitions_24 p0 p1 p2 fu) q3 q4 N) 24 [some (.ref p0), some (.int p1), some (.int p2), some (.int q3), some (.int q4)] [] N
    unfold lb_M_reachingDefinitions_24
    refine im_iload 15 24 rfl rfl ?_
    refine im_aload_n 16 26 rfl rfl ?_
    refine im_iconst 17 27 rfl rfl ?_
    refine im_ci (S := [.int q4]) (fun _ hv => cpV (fr' := 1) (lo' := 20) (i := 18) (As := [.int (1 : Int32)]) (S := [.int q4]) (a := p0) (c := 11) rfl lk_M_61 mw_M_get mv_M_get rfl ⟨by decide, rfl⟩ rfl rfl rfl (gd_some hv).1 (sp_M_get G hv)) (fun x3 => ?_)
    refine im_ic_ge 19 31 71 rfl (by decide) ?_ ?_
    · refine im_iload_n 39 71 rfl rfl ?_
      exact im_end rfl (wp_ireturn 40 72 rfl rfl)
    · refine im_iload_n 20 34 rfl rfl ?_
      refine im_aload_n 21 35 rfl rfl ?_
      refine im_iload 22 36 rfl rfl ?_
      refine im_iload_n 23 38 rfl rfl ?_
      refine im_ci (S := [.int q3]) (fun _ hv => cpV (fr' := 4) (lo' := 84) (i := 24) (As := [.int q4, .int p2]) (S := [.int q3]) (a := p0) (c := 11) rfl lk_M_103 mw_M_defines mv_M_defines rfl ⟨by decide, rfl⟩ rfl rfl rfl (gd_some hv).1 (sp_M_defines G hv)) (fun x4 => ?_)
      refine im_jp (fun j60 => ∀ (x5 : Int32) (M3 : mm_T), im_I mi_M_reachingDefinitions 21 491 G M0 sw_i (j60 x5 M3) 60 [some (.ref p0), some (.int p1), some (.int p2), none, some (.int q4)] [.int x5, .int q3] M3) ?_ (fun j60 hj60 => ?_)
      · intro x5 M3
        show im_I mi_M_reachingDefinitions 21 491 G M0 sw_i (_) 60 [some (.ref p0), some (.int p1), some (.int p2), none, some (.int q4)] [.int x5, .int q3] M3
        refine im_ci (S := [.int q3]) (fun _ hv => cpS (fr' := 1) (lo' := 20) (i := 34) (As := [.int x5]) (S := [.int q3]) rfl lk_M_117 mw_M_one mv_M_one rfl rfl rfl rfl (sp_M_one G hv)) (fun x6 => ?_)
        refine im_iadd 35 63 rfl ?_
        refine im_letI (fun x7 => ?_)
        refine im_istore_n 36 64 [some (.ref p0), some (.int p1), some (.int p2), some (.int x7), some (.int q4)] rfl rfl rfl ?_
        refine im_iincL 37 65 (fun x8 => [some (.ref p0), some (.int p1), some (.int p2), some (.int x7), some (.int x8)]) rfl rfl rfl rfl (fun _ => rfl) (fun x8 => ?_)
        refine im_goto 38 68 24 rfl (by decide) ?_
        exact im_less _ (by simp [lv_le]) (ih x7 x8 M3)
      refine im_jp (fun j59 => ∀  (M4 : mm_T), im_I mi_M_reachingDefinitions 21 491 G M0 sw_i (j59 M4) 59 [some (.ref p0), some (.int p1), some (.int p2), none, some (.int q4)] [.int q3] M4) ?_ (fun j59 hj59 => ?_)
      · intro M4
        show im_I mi_M_reachingDefinitions 21 491 G M0 sw_i (_) 59 [some (.ref p0), some (.int p1), some (.int p2), none, some (.int q4)] [.int q3] M4
        refine im_iconst 33 59 rfl rfl ?_
        exact im_less _ (by simp [lv_le]) (hj60 (0 : Int32) M4)
      refine im_if_eq 25 42 59 rfl (by decide) ?_ ?_
      · exact im_less _ (by simp [lv_le]) (hj59 N)
      · refine im_aload_n 26 45 rfl rfl ?_
        refine im_iload 27 46 rfl rfl ?_
        refine im_iload_n 28 48 rfl rfl ?_
        refine im_cWi (S := [.int q3]) (fun _ _ hv => cpV (fr' := 20) (lo' := 466) (i := 29) (As := [.int q4, .int p1]) (S := [.int q3]) (a := p0) (c := 11) rfl lk_M_127 mw_M_reachesStart mv_M_reachesStart rfl ⟨by decide, rfl⟩ rfl rfl rfl (gd_some hv).1 (sp_M_reachesStart G hv)) (fun x9 M5 => ?_)
        refine im_if_eq 30 52 59 rfl (by decide) ?_ ?_
        · exact im_less _ (by simp [lv_le]) (hj59 M5)
        · refine im_iconst 31 55 rfl rfl ?_
          refine im_goto 32 56 60 rfl (by decide) ?_
          exact im_less _ (by simp [lv_le]) (hj60 (1 : Int32) M5)

set_option maxRecDepth 100000 in
set_option maxHeartbeats 4000000 in
theorem ip_M_reachingDefinitions (G : gl_T) (t : Nat) (a1 : Int32) (a2 : Int32) (M : mm_T) : im_I mi_M_reachingDefinitions 21 491 G M sw_i (ff_M_reachingDefinitions t a1 a2 M) 0 [some (.ref t), some (.int a1), some (.int a2), none, none] [] M := by
  unfold ff_M_reachingDefinitions
  refine im_gd (fun hg => ?_)
  refine im_aload_n 0 0 rfl rfl ?_
  refine im_iload_n 1 1 rfl rfl ?_
  refine im_cWi (S := []) (fun _ _ hv => cpV (fr' := 2) (lo' := 42) (i := 2) (As := [.int a1]) (S := []) (a := t) (c := 11) rfl lk_M_329 mw_M_isBlock mv_M_isBlock rfl ⟨by decide, rfl⟩ rfl rfl rfl (gd_some hv).1 (sp_M_isBlock G hv)) (fun x1 M1 => ?_)
  refine im_if_eq 3 5 17 rfl (by decide) ?_ ?_
  · refine im_iconst 9 17 rfl rfl ?_
    exact im_end rfl (wp_ireturn 10 18 rfl rfl)
  · refine im_aload_n 4 8 rfl rfl ?_
    refine im_iload_n 5 9 rfl rfl ?_
    refine im_iconst 6 10 rfl rfl ?_
    refine im_cWi (S := []) (fun _ _ hv => cpV (fr' := 2) (lo' := 42) (i := 7) (As := [.int a2, .int (2 : Int32)]) (S := []) (a := t) (c := 11) rfl lk_M_335 mw_M_isVariable mv_M_isVariable rfl ⟨by decide, rfl⟩ rfl rfl rfl (gd_some hv).1 (sp_M_isVariable G hv)) (fun x2 M2 => ?_)
    refine im_if_ne 8 14 19 rfl (by decide) ?_ ?_
    · refine im_iconst 11 19 rfl rfl ?_
      refine im_istore_n 12 20 [some (.ref t), some (.int a1), some (.int a2), some (.int (0 : Int32)), none] rfl rfl rfl ?_
      refine im_iconst 13 21 rfl rfl ?_
      refine im_istore 14 22 [some (.ref t), some (.int a1), some (.int a2), some (.int (0 : Int32)), some (.int (0 : Int32))] rfl rfl rfl ?_
      refine im_less [some (.ref t), some (.int a1), some (.int a2), some (.int (0 : Int32)), some (.int (0 : Int32))] (by simp [lv_le]) ?_
      exact li_M_reachingDefinitions_24 G M t a1 a2 fu_L (0 : Int32) (0 : Int32) M2
    · refine im_iconst 9 17 rfl rfl ?_
      exact im_end rfl (wp_ireturn 10 18 rfl rfl)

theorem sp_M_reachingDefinitions (G : gl_T) {t : Nat} {a1 : Int32} {a2 : Int32} {M : mm_T} {y : Int32 × mm_T} (h : ff_M_reachingDefinitions t a1 a2 M = some y) : sp_S mi_M_reachingDefinitions 21 491 G [.ref t, .int a1, .int a2] M (sw_i y).1 (sw_i y).2 := sp_of mo_M_reachingDefinitions mw_M_reachingDefinitions (Or.inl (by decide +kernel)) rfl rfl (Or.inl rfl) (ip_M_reachingDefinitions G t a1 a2 M y h)

