set_option maxRecDepth 100000 in
set_option maxHeartbeats 4000000 in
theorem ip_M_removeInstruction (G : gl_T) (t : Nat) (a1 : Int32) (M : mm_T) : im_I mi_M_removeInstruction 7 153 G M sw_i (ff_M_removeInstruction t a1 M) 0 [some (.ref t), some (.int a1)] [] M := by
  unfold ff_M_removeInstruction
  refine im_gd (fun hg => ?_)
  refine im_aload_n 0 0 rfl rfl ?_
  refine im_iload_n 1 1 rfl rfl ?_
  refine im_cWi (S := []) (fun _ _ hv => cpV (fr' := 2) (lo' := 42) (i := 2) (As := [.int a1]) (S := []) (a := t) (c := 11) rfl lk_M_332 mw_M_isItem mv_M_isItem rfl ⟨by decide, rfl⟩ rfl rfl rfl (gd_some hv).1 (sp_M_isItem G hv)) (fun x1 M1 => ?_)
  refine im_if_ne 3 5 10 rfl (by decide) ?_ ?_
  · refine im_aload_n 6 10 rfl rfl ?_
    refine im_cWv (S := []) (fun _ hv => cpV (fr' := 2) (lo' := 43) (i := 7) (As := []) (S := []) (a := t) (c := 11) rfl lk_M_386 mw_M_keeps mv_M_keeps rfl ⟨by decide, rfl⟩ rfl rfl rfl (gd_some hv).1 (sp_M_keeps G hv)) (fun M2 => ?_)
    refine im_aload_n 8 14 rfl rfl ?_
    refine im_iload_n 9 15 rfl rfl ?_
    refine im_cWv (S := []) (fun _ hv => cpV (fr' := 6) (lo' := 129) (i := 10) (As := [.int a1]) (S := []) (a := t) (c := 11) rfl lk_M_396 mw_M_removes mv_M_removes rfl ⟨by decide, rfl⟩ rfl rfl rfl (gd_some hv).1 (sp_M_removes G hv)) (fun M3 => ?_)
    refine im_aload_n 11 19 rfl rfl ?_
    refine im_iconst 12 20 rfl rfl ?_
    refine im_ci (S := []) (fun _ hv => cpV (fr' := 1) (lo' := 20) (i := 13) (As := [.int (1 : Int32)]) (S := []) (a := t) (c := 11) rfl lk_M_61 mw_M_get mv_M_get rfl ⟨by decide, rfl⟩ rfl rfl rfl (gd_some hv).1 (sp_M_get G hv)) (fun x2 => ?_)
    exact im_end rfl (wp_ireturn 14 24 rfl rfl)
  · refine im_iconst 4 8 rfl rfl ?_
    exact im_end rfl (wp_ireturn 5 9 rfl rfl)

theorem sp_M_removeInstruction (G : gl_T) {t : Nat} {a1 : Int32} {M : mm_T} {y : Int32 × mm_T} (h : ff_M_removeInstruction t a1 M = some y) : sp_S mi_M_removeInstruction 7 153 G [.ref t, .int a1] M (sw_i y).1 (sw_i y).2 := sp_of mo_M_removeInstruction mw_M_removeInstruction (Or.inl (by decide +kernel)) rfl rfl (Or.inl rfl) (ip_M_removeInstruction G t a1 M y h)

set_option maxRecDepth 100000 in
set_option maxHeartbeats 4000000 in
theorem ip_M_setGoto (G : gl_T) (t : Nat) (a1 : Int32) (a2 : Int32) (M : mm_T) : im_I mi_M_setGoto 21 488 G M sw_i (ff_M_setGoto t a1 a2 M) 0 [some (.ref t), some (.int a1), some (.int a2)] [] M := by
  unfold ff_M_setGoto
  refine im_gd (fun hg => ?_)
  refine im_aload_n 0 0 rfl rfl ?_
  refine im_iload_n 1 1 rfl rfl ?_
  refine im_cWi (S := []) (fun _ _ hv => cpV (fr' := 2) (lo' := 42) (i := 2) (As := [.int a1]) (S := []) (a := t) (c := 11) rfl lk_M_329 mw_M_isBlock mv_M_isBlock rfl ⟨by decide, rfl⟩ rfl rfl rfl (gd_some hv).1 (sp_M_isBlock G hv)) (fun x1 M1 => ?_)
  refine im_if_eq 3 5 16 rfl (by decide) ?_ ?_
  · refine im_iconst 8 16 rfl rfl ?_
    exact im_end rfl (wp_ireturn 9 17 rfl rfl)
  · refine im_aload_n 4 8 rfl rfl ?_
    refine im_iload_n 5 9 rfl rfl ?_
    refine im_cWi (S := []) (fun _ _ hv => cpV (fr' := 2) (lo' := 42) (i := 6) (As := [.int a2]) (S := []) (a := t) (c := 11) rfl lk_M_329 mw_M_isBlock mv_M_isBlock rfl ⟨by decide, rfl⟩ rfl rfl rfl (gd_some hv).1 (sp_M_isBlock G hv)) (fun x2 M2 => ?_)
    refine im_if_ne 7 13 18 rfl (by decide) ?_ ?_
    · refine im_aload_n 10 18 rfl rfl ?_
      refine im_cWv (S := []) (fun _ hv => cpV (fr' := 2) (lo' := 43) (i := 11) (As := []) (S := []) (a := t) (c := 11) rfl lk_M_386 mw_M_keeps mv_M_keeps rfl ⟨by decide, rfl⟩ rfl rfl rfl (gd_some hv).1 (sp_M_keeps G hv)) (fun M3 => ?_)
      refine im_aload_n 12 22 rfl rfl ?_
      refine im_iload_n 13 23 rfl rfl ?_
      refine im_iconst 14 24 rfl rfl ?_
      refine im_iconst 15 25 rfl rfl ?_
      refine im_iload_n 16 26 rfl rfl ?_
      refine im_iconst 17 27 rfl rfl ?_
      refine im_cWv (S := []) (fun _ hv => cpV (fr' := 3) (lo' := 65) (i := 18) (As := [.int a1, .int (1 : Int32), .int (0 : Int32), .int a2, .int (0 : Int32)]) (S := []) (a := t) (c := 11) rfl lk_M_52 mw_M_exits mv_M_exits rfl ⟨by decide, rfl⟩ rfl rfl rfl (gd_some hv).1 (sp_M_exits G hv)) (fun M4 => ?_)
      refine im_aload_n 19 31 rfl rfl ?_
      refine im_cWi (S := []) (fun _ _ hv => cpV (fr' := 20) (lo' := 466) (i := 20) (As := []) (S := []) (a := t) (c := 11) rfl lk_M_399 mw_M_reachedCount mv_M_reachedCount rfl ⟨by decide, rfl⟩ rfl rfl rfl (gd_some hv).1 (sp_M_reachedCount G hv)) (fun x3 M5 => ?_)
      exact im_end rfl (wp_ireturn 21 35 rfl rfl)
    · refine im_iconst 8 16 rfl rfl ?_
      exact im_end rfl (wp_ireturn 9 17 rfl rfl)

theorem sp_M_setGoto (G : gl_T) {t : Nat} {a1 : Int32} {a2 : Int32} {M : mm_T} {y : Int32 × mm_T} (h : ff_M_setGoto t a1 a2 M = some y) : sp_S mi_M_setGoto 21 488 G [.ref t, .int a1, .int a2] M (sw_i y).1 (sw_i y).2 := sp_of mo_M_setGoto mw_M_setGoto (Or.inl (by decide +kernel)) rfl rfl (Or.inl rfl) (ip_M_setGoto G t a1 a2 M y h)

set_option maxRecDepth 100000 in
set_option maxHeartbeats 4000000 in
theorem ip_M_setBranch (G : gl_T) (t : Nat) (a1 : Int32) (a2 : Int32) (a3 : Int32) (a4 : Int32) (M : mm_T) : im_I mi_M_setBranch 21 488 G M sw_i (ff_M_setBranch t a1 a2 a3 a4 M) 0 [some (.ref t), some (.int a1), some (.int a2), some (.int a3), some (.int a4)] [] M := by
  unfold ff_M_setBranch
  refine im_gd (fun hg => ?_)
  refine im_aload_n 0 0 rfl rfl ?_
  refine im_iload_n 1 1 rfl rfl ?_
  refine im_cWi (S := []) (fun _ _ hv => cpV (fr' := 2) (lo' := 42) (i := 2) (As := [.int a1]) (S := []) (a := t) (c := 11) rfl lk_M_329 mw_M_isBlock mv_M_isBlock rfl ⟨by decide, rfl⟩ rfl rfl rfl (gd_some hv).1 (sp_M_isBlock G hv)) (fun x1 M1 => ?_)
  refine im_if_eq 3 5 34 rfl (by decide) ?_ ?_
  · refine im_iconst 17 34 rfl rfl ?_
    exact im_end rfl (wp_ireturn 18 35 rfl rfl)
  · refine im_aload_n 4 8 rfl rfl ?_
    refine im_iload_n 5 9 rfl rfl ?_
    refine im_cWi (S := []) (fun _ _ hv => cpV (fr' := 2) (lo' := 42) (i := 6) (As := [.int a3]) (S := []) (a := t) (c := 11) rfl lk_M_329 mw_M_isBlock mv_M_isBlock rfl ⟨by decide, rfl⟩ rfl rfl rfl (gd_some hv).1 (sp_M_isBlock G hv)) (fun x2 M2 => ?_)
    refine im_if_eq 7 13 34 rfl (by decide) ?_ ?_
    · refine im_iconst 17 34 rfl rfl ?_
      exact im_end rfl (wp_ireturn 18 35 rfl rfl)
    · refine im_aload_n 8 16 rfl rfl ?_
      refine im_iload 9 17 rfl rfl ?_
      refine im_cWi (S := []) (fun _ _ hv => cpV (fr' := 2) (lo' := 42) (i := 10) (As := [.int a4]) (S := []) (a := t) (c := 11) rfl lk_M_329 mw_M_isBlock mv_M_isBlock rfl ⟨by decide, rfl⟩ rfl rfl rfl (gd_some hv).1 (sp_M_isBlock G hv)) (fun x3 M3 => ?_)
      refine im_if_eq 11 22 34 rfl (by decide) ?_ ?_
      · refine im_iconst 17 34 rfl rfl ?_
        exact im_end rfl (wp_ireturn 18 35 rfl rfl)
      · refine im_aload_n 12 25 rfl rfl ?_
        refine im_iload_n 13 26 rfl rfl ?_
        refine im_iconst 14 27 rfl rfl ?_
        refine im_cWi (S := []) (fun _ _ hv => cpV (fr' := 2) (lo' := 42) (i := 15) (As := [.int a2, .int (2 : Int32)]) (S := []) (a := t) (c := 11) rfl lk_M_335 mw_M_isVariable mv_M_isVariable rfl ⟨by decide, rfl⟩ rfl rfl rfl (gd_some hv).1 (sp_M_isVariable G hv)) (fun x4 M4 => ?_)
        refine im_if_ne 16 31 36 rfl (by decide) ?_ ?_
        · refine im_aload_n 19 36 rfl rfl ?_
          refine im_cWv (S := []) (fun _ hv => cpV (fr' := 2) (lo' := 43) (i := 20) (As := []) (S := []) (a := t) (c := 11) rfl lk_M_386 mw_M_keeps mv_M_keeps rfl ⟨by decide, rfl⟩ rfl rfl rfl (gd_some hv).1 (sp_M_keeps G hv)) (fun M5 => ?_)
          refine im_aload_n 21 40 rfl rfl ?_
          refine im_iload_n 22 41 rfl rfl ?_
          refine im_iconst 23 42 rfl rfl ?_
          refine im_iload_n 24 43 rfl rfl ?_
          refine im_iload_n 25 44 rfl rfl ?_
          refine im_iload 26 45 rfl rfl ?_
          refine im_cWv (S := []) (fun _ hv => cpV (fr' := 3) (lo' := 65) (i := 27) (As := [.int a1, .int (2 : Int32), .int a2, .int a3, .int a4]) (S := []) (a := t) (c := 11) rfl lk_M_52 mw_M_exits mv_M_exits rfl ⟨by decide, rfl⟩ rfl rfl rfl (gd_some hv).1 (sp_M_exits G hv)) (fun M6 => ?_)
          refine im_aload_n 28 50 rfl rfl ?_
          refine im_cWi (S := []) (fun _ _ hv => cpV (fr' := 20) (lo' := 466) (i := 29) (As := []) (S := []) (a := t) (c := 11) rfl lk_M_399 mw_M_reachedCount mv_M_reachedCount rfl ⟨by decide, rfl⟩ rfl rfl rfl (gd_some hv).1 (sp_M_reachedCount G hv)) (fun x5 M7 => ?_)
          exact im_end rfl (wp_ireturn 30 54 rfl rfl)
        · refine im_iconst 17 34 rfl rfl ?_
          exact im_end rfl (wp_ireturn 18 35 rfl rfl)

theorem sp_M_setBranch (G : gl_T) {t : Nat} {a1 : Int32} {a2 : Int32} {a3 : Int32} {a4 : Int32} {M : mm_T} {y : Int32 × mm_T} (h : ff_M_setBranch t a1 a2 a3 a4 M = some y) : sp_S mi_M_setBranch 21 488 G [.ref t, .int a1, .int a2, .int a3, .int a4] M (sw_i y).1 (sw_i y).2 := sp_of mo_M_setBranch mw_M_setBranch (Or.inl (by decide +kernel)) rfl rfl (Or.inl rfl) (ip_M_setBranch G t a1 a2 a3 a4 M y h)

set_option maxRecDepth 100000 in
set_option maxHeartbeats 4000000 in
theorem li_M_removesDead_7 (G : gl_T) (M0 : mm_T) (k0 : mm_T → Option (Int32 × mm_T)) (p0 : Nat) (p1 : Nat) (hk0 : ∀ (N : mm_T), im_I mi_M_removesDead 23 535 G M0 sw_i (k0 N) 30 [some (.ref p0), some (.ref p1), none, none] [] N) : ∀ (fu : Nat) (q2 : Int32) (N : mm_T), im_I mi_M_removesDead 23 535 G M0 sw_i (lf_M_removesDead_7 k0 p0 p1 fu q2 N) 7 [some (.ref p0), some (.ref p1), some (.int q2), none] [] N := by
  intro fu
  induction fu with
  | zero => intro _ _; exact im_none
  | succ fu ih =>
    intro q2 N
    show im_I mi_M_removesDead 23 535 G M0 sw_i (lb_M_removesDead_7 k0 p0 p1 (lf_M_removesDead_7 k0 p0 p1 fu) q2 N) 7 [some (.ref p0), some (.ref p1), some (.int q2), none] [] N
    unfold lb_M_removesDead_7
    refine im_iload_n 5 7 rfl rfl ?_
    refine im_aload_n 6 8 rfl rfl ?_
    refine im_iconst 7 9 rfl rfl ?_
    refine im_ci (S := [.int q2]) (fun _ hv => cpV (fr' := 1) (lo' := 20) (i := 8) (As := [.int (1 : Int32)]) (S := [.int q2]) (a := p0) (c := 11) rfl lk_M_61 mw_M_get mv_M_get rfl ⟨by decide, rfl⟩ rfl rfl rfl (gd_some hv).1 (sp_M_get G hv)) (fun x2 => ?_)
    refine im_ic_ge 9 13 30 rfl (by decide) ?_ ?_
    · exact im_less _ (by simp [lv_le]) (hk0 N)
    · refine im_aload_n 10 16 rfl rfl ?_
      refine im_iload_n 11 17 rfl rfl ?_
      refine im_aload_n 12 18 rfl rfl ?_
      refine im_iload_n 13 19 rfl rfl ?_
      refine im_cWi (S := [.int q2, .ref p1]) (fun _ _ hv => cpV (fr' := 22) (lo' := 514) (i := 14) (As := [.int q2]) (S := [.int q2, .ref p1]) (a := p0) (c := 11) rfl lk_M_347 mw_M_isDead0 mv_M_isDead0 rfl ⟨by decide, rfl⟩ rfl rfl rfl (gd_some hv).1 (sp_M_isDead0 G hv)) (fun x3 M2 => ?_)
      refine im_bastore 15 23 rfl (fun M3 => ?_)
      refine im_iincL 16 24 (fun x4 => [some (.ref p0), some (.ref p1), some (.int x4), none]) rfl rfl rfl rfl (fun _ => rfl) (fun x4 => ?_)
      refine im_goto 17 27 7 rfl (by decide) ?_
      exact im_less _ (by simp [lv_le]) (ih x4 M3)

set_option maxRecDepth 100000 in
set_option maxHeartbeats 4000000 in
theorem li_M_removesDead_35 (G : gl_T) (M0 : mm_T) (p0 : Nat) (p1 : Nat) : ∀ (fu : Nat) (q2 : Int32) (q3 : Int32) (N : mm_T), im_I mi_M_removesDead 23 535 G M0 sw_i (lf_M_removesDead_35 p0 p1 fu q2 q3 N) 35 [some (.ref p0), some (.ref p1), some (.int q2), some (.int q3)] [] N := by
  intro fu
  induction fu with
  | zero => intro _ _ _; exact im_none
  | succ fu ih =>
    intro q2 q3 N
    show im_I mi_M_removesDead 23 535 G M0 sw_i (lb_M_removesDead_35 p0 p1 (lf_M_removesDead_35 p0 p1 fu) q2 q3 N) 35 [some (.ref p0), some (.ref p1), some (.int q2), some (.int q3)] [] N
    unfold lb_M_removesDead_35
    refine im_iload_n 22 35 rfl rfl ?_
    refine im_if_lt 23 36 62 rfl (by decide) ?_ ?_
    · refine im_iload_n 35 62 rfl rfl ?_
      exact im_end rfl (wp_ireturn 36 63 rfl rfl)
    · refine im_aload_n 24 39 rfl rfl ?_
      refine im_iload_n 25 40 rfl rfl ?_
      refine im_baload 26 41 rfl (fun x5 => ?_)
      refine im_jp (fun j56 => ∀ (x6 : Int32) (M5 : mm_T), im_I mi_M_removesDead 23 535 G M0 sw_i (j56 x6 M5) 56 [some (.ref p0), some (.ref p1), some (.int x6), some (.int q3)] [] M5) ?_ (fun j56 hj56 => ?_)
      · intro x6 M5
        show im_I mi_M_removesDead 23 535 G M0 sw_i (_) 56 [some (.ref p0), some (.ref p1), some (.int x6), some (.int q3)] [] M5
        refine im_iincL 33 56 (fun x7 => [some (.ref p0), some (.ref p1), some (.int x6), some (.int x7)]) rfl rfl rfl rfl (fun _ => rfl) (fun x7 => ?_)
        refine im_goto 34 59 35 rfl (by decide) ?_
        exact im_less _ (by simp [lv_le]) (ih x6 x7 M5)
      refine im_if_ne 27 42 48 rfl (by decide) ?_ ?_
      · refine im_aload_n 29 48 rfl rfl ?_
        refine im_iload_n 30 49 rfl rfl ?_
        refine im_cWv (S := []) (fun _ hv => cpV (fr' := 6) (lo' := 129) (i := 31) (As := [.int q3]) (S := []) (a := p0) (c := 11) rfl lk_M_396 mw_M_removes mv_M_removes rfl ⟨by decide, rfl⟩ rfl rfl rfl (gd_some hv).1 (sp_M_removes G hv)) (fun M6 => ?_)
        refine im_iincL 32 53 (fun x8 => [some (.ref p0), some (.ref p1), some (.int x8), some (.int q3)]) rfl rfl rfl rfl (fun _ => rfl) (fun x8 => ?_)
        exact im_less _ (by simp [lv_le]) (hj56 x8 M6)
      · refine im_goto 28 45 56 rfl (by decide) ?_
        exact im_less _ (by simp [lv_le]) (hj56 q2 N)

set_option maxRecDepth 100000 in
set_option maxHeartbeats 4000000 in
theorem ip_M_removesDead (G : gl_T) (t : Nat) (M : mm_T) : im_I mi_M_removesDead 23 535 G M sw_i (ff_M_removesDead t M) 0 [some (.ref t), none, none, none] [] M := by
  unfold ff_M_removesDead
  refine im_gd (fun hg => ?_)
  refine im_bipush 0 0 rfl rfl ?_
  refine im_newZ 1 2 rfl (tb_m 1909 (by decide +kernel) rfl) (fun x1 M1 => ?_)
  refine im_astore_n 2 4 [some (.ref t), some (.ref x1), none, none] rfl rfl rfl ?_
  refine im_iconst 3 5 rfl rfl ?_
  refine im_istore_n 4 6 [some (.ref t), some (.ref x1), some (.int (0 : Int32)), none] rfl rfl rfl ?_
  refine im_less [some (.ref t), some (.ref x1), some (.int (0 : Int32)), none] (by simp [lv_le]) ?_
  refine li_M_removesDead_7 G M _ t x1 ?_ fu_L (0 : Int32) M1
  · intro M4
    show im_I mi_M_removesDead 23 535 G M sw_i (_) 30 [some (.ref t), some (.ref x1), none, none] [] M4
    refine im_iconst 18 30 rfl rfl ?_
    refine im_istore_n 19 31 [some (.ref t), some (.ref x1), some (.int (0 : Int32)), none] rfl rfl rfl ?_
    refine im_bipush 20 32 rfl rfl ?_
    refine im_istore_n 21 34 [some (.ref t), some (.ref x1), some (.int (0 : Int32)), some (.int (39 : Int32))] rfl rfl rfl ?_
    refine im_less [some (.ref t), some (.ref x1), some (.int (0 : Int32)), some (.int (39 : Int32))] (by simp [lv_le]) ?_
    exact li_M_removesDead_35 G M t x1 fu_L (0 : Int32) (39 : Int32) M4

theorem sp_M_removesDead (G : gl_T) {t : Nat} {M : mm_T} {y : Int32 × mm_T} (h : ff_M_removesDead t M = some y) : sp_S mi_M_removesDead 23 535 G [.ref t] M (sw_i y).1 (sw_i y).2 := sp_of mo_M_removesDead mw_M_removesDead (Or.inl (by decide +kernel)) rfl rfl (Or.inl rfl) (ip_M_removesDead G t M y h)

set_option maxRecDepth 100000 in
set_option maxHeartbeats 4000000 in
theorem li_M_removeDead_16 (G : gl_T) (M0 : mm_T) (p0 : Nat) : ∀ (fu : Nat) (q1 : Int32) (q2 : Int32) (N : mm_T), im_I mi_M_removeDead 24 558 G M0 sw_i (lf_M_removeDead_16 p0 fu q1 q2 N) 16 [some (.ref p0), some (.int q1), some (.int q2)] [] N := by
  intro fu
  induction fu with
  | zero => intro _ _ _; exact im_none
  | succ fu ih =>
    intro q1 q2 N
    show im_I mi_M_removeDead 24 558 G M0 sw_i (lb_M_removeDead_16 p0 (lf_M_removeDead_16 p0 fu) q1 q2 N) 16 [some (.ref p0), some (.int q1), some (.int q2)] [] N
    unfold lb_M_removeDead_16
    refine im_iload_n 10 16 rfl rfl ?_
    refine im_if_le 11 17 32 rfl (by decide) ?_ ?_
    · refine im_iload_n 20 32 rfl rfl ?_
      exact im_end rfl (wp_ireturn 21 33 rfl rfl)
    · refine im_aload_n 12 20 rfl rfl ?_
      refine im_cWi (S := []) (fun _ _ hv => cpV (fr' := 23) (lo' := 535) (i := 13) (As := []) (S := []) (a := p0) (c := 11) rfl lk_M_402 mw_M_removesDead mv_M_removesDead rfl ⟨by decide, rfl⟩ rfl rfl rfl (gd_some hv).1 (sp_M_removesDead G hv)) (fun x2 M4 => ?_)
      refine im_istore_n 14 24 [some (.ref p0), some (.int x2), some (.int q2)] rfl rfl rfl ?_
      refine im_iload_n 15 25 rfl rfl ?_
      refine im_iload_n 16 26 rfl rfl ?_
      refine im_iadd 17 27 rfl ?_
      refine im_letI (fun x3 => ?_)
      refine im_istore_n 18 28 [some (.ref p0), some (.int x2), some (.int x3)] rfl rfl rfl ?_
      refine im_goto 19 29 16 rfl (by decide) ?_
      exact im_less _ (by simp [lv_le]) (ih x2 x3 M4)

set_option maxRecDepth 100000 in
set_option maxHeartbeats 4000000 in
theorem ip_M_removeDead (G : gl_T) (t : Nat) (M : mm_T) : im_I mi_M_removeDead 24 558 G M sw_i (ff_M_removeDead t M) 0 [some (.ref t), none, none] [] M := by
  unfold ff_M_removeDead
  refine im_gd (fun hg => ?_)
  refine im_aload_n 0 0 rfl rfl ?_
  refine im_iconst 1 1 rfl rfl ?_
  refine im_putI 2 2 rfl fd_M_55 (Or.inl (by decide +kernel)) (by decide +kernel) (fun M1 => ?_)
  refine im_aload_n 3 5 rfl rfl ?_
  refine im_cWv (S := []) (fun _ hv => cpV (fr' := 2) (lo' := 43) (i := 4) (As := []) (S := []) (a := t) (c := 11) rfl lk_M_386 mw_M_keeps mv_M_keeps rfl ⟨by decide, rfl⟩ rfl rfl rfl (gd_some hv).1 (sp_M_keeps G hv)) (fun M2 => ?_)
  refine im_aload_n 5 9 rfl rfl ?_
  refine im_cWi (S := []) (fun _ _ hv => cpV (fr' := 23) (lo' := 535) (i := 6) (As := []) (S := []) (a := t) (c := 11) rfl lk_M_402 mw_M_removesDead mv_M_removesDead rfl ⟨by decide, rfl⟩ rfl rfl rfl (gd_some hv).1 (sp_M_removesDead G hv)) (fun x1 M3 => ?_)
  refine im_istore_n 7 13 [some (.ref t), some (.int x1), none] rfl rfl rfl ?_
  refine im_iload_n 8 14 rfl rfl ?_
  refine im_istore_n 9 15 [some (.ref t), some (.int x1), some (.int x1)] rfl rfl rfl ?_
  refine im_less [some (.ref t), some (.int x1), some (.int x1)] (by simp [lv_le]) ?_
  exact li_M_removeDead_16 G M t fu_L x1 x1 M3

theorem sp_M_removeDead (G : gl_T) {t : Nat} {M : mm_T} {y : Int32 × mm_T} (h : ff_M_removeDead t M = some y) : sp_S mi_M_removeDead 24 558 G [.ref t] M (sw_i y).1 (sw_i y).2 := sp_of mo_M_removeDead mw_M_removeDead (Or.inl (by decide +kernel)) rfl rfl (Or.inl rfl) (ip_M_removeDead G t M y h)

set_option maxRecDepth 100000 in
set_option maxHeartbeats 4000000 in
theorem li_M_foldConstants_16 (G : gl_T) (M0 : mm_T) (k0 : mm_T → Option (Int32 × mm_T)) (p0 : Nat) (p1 : Nat) (hk0 : ∀ (N : mm_T), im_I mi_M_foldConstants 24 554 G M0 sw_i (k0 N) 52 [some (.ref p0), some (.ref p1), none, none] [] N) : ∀ (fu : Nat) (q2 : Int32) (N : mm_T), im_I mi_M_foldConstants 24 554 G M0 sw_i (lf_M_foldConstants_16 k0 p0 p1 fu q2 N) 16 [some (.ref p0), some (.ref p1), some (.int q2), none] [] N := by
  intro fu
  induction fu with
  | zero => intro _ _; exact im_none
  | succ fu ih =>
    intro q2 N
    show im_I mi_M_foldConstants 24 554 G M0 sw_i (lb_M_foldConstants_16 k0 p0 p1 (lf_M_foldConstants_16 k0 p0 p1 fu) q2 N) 16 [some (.ref p0), some (.ref p1), some (.int q2), none] [] N
    unfold lb_M_foldConstants_16
    refine im_iload_n 10 16 rfl rfl ?_
    refine im_aload_n 11 17 rfl rfl ?_
    refine im_iconst 12 18 rfl rfl ?_
    refine im_ci (S := [.int q2]) (fun _ hv => cpV (fr' := 1) (lo' := 20) (i := 13) (As := [.int (1 : Int32)]) (S := [.int q2]) (a := p0) (c := 11) rfl lk_M_61 mw_M_get mv_M_get rfl ⟨by decide, rfl⟩ rfl rfl rfl (gd_some hv).1 (sp_M_get G hv)) (fun x2 => ?_)
    refine im_ic_ge 14 22 52 rfl (by decide) ?_ ?_
    · exact im_less _ (by simp [lv_le]) (hk0 N)
    · refine im_aload_n 15 25 rfl rfl ?_
      refine im_iload_n 16 26 rfl rfl ?_
      refine im_aload_n 17 27 rfl rfl ?_
      refine im_iload_n 18 28 rfl rfl ?_
      refine im_iconst 19 29 rfl rfl ?_
      refine im_ci (S := [.int q2, .ref p1]) (fun _ hv => cpV (fr' := 2) (lo' := 41) (i := 20) (As := [.int q2, .int (0 : Int32)]) (S := [.int q2, .ref p1]) (a := p0) (c := 11) rfl lk_M_96 mw_M_it mv_M_it rfl ⟨by decide, rfl⟩ rfl rfl rfl (gd_some hv).1 (sp_M_it G hv)) (fun x3 => ?_)
      refine im_jp (fun j45 => ∀ (x4 : Int32) (M4 : mm_T), im_I mi_M_foldConstants 24 554 G M0 sw_i (j45 x4 M4) 45 [some (.ref p0), some (.ref p1), some (.int q2), none] [.int x4, .int q2, .ref p1] M4) ?_ (fun j45 hj45 => ?_)
      · intro x4 M4
        show im_I mi_M_foldConstants 24 554 G M0 sw_i (_) 45 [some (.ref p0), some (.ref p1), some (.int q2), none] [.int x4, .int q2, .ref p1] M4
        refine im_iastore 27 45 rfl (fun M5 => ?_)
        refine im_iincL 28 46 (fun x5 => [some (.ref p0), some (.ref p1), some (.int x5), none]) rfl rfl rfl rfl (fun _ => rfl) (fun x5 => ?_)
        refine im_goto 29 49 16 rfl (by decide) ?_
        exact im_less _ (by simp [lv_le]) (ih x5 M5)
      refine im_if_ne 21 33 40 rfl (by decide) ?_ ?_
      · refine im_aload_n 24 40 rfl rfl ?_
        refine im_iload_n 25 41 rfl rfl ?_
        refine im_cWi (S := [.int q2, .ref p1]) (fun _ _ hv => cpV (fr' := 23) (lo' := 533) (i := 26) (As := [.int q2]) (S := [.int q2, .ref p1]) (a := p0) (c := 11) rfl lk_M_374 mw_M_constantGiven mv_M_constantGiven rfl ⟨by decide, rfl⟩ rfl rfl rfl (gd_some hv).1 (sp_M_constantGiven G hv)) (fun x6 M6 => ?_)
        exact im_less _ (by simp [lv_le]) (hj45 x6 M6)
      · refine im_iconst 22 36 rfl rfl ?_
        refine im_goto 23 37 45 rfl (by decide) ?_
        exact im_less _ (by simp [lv_le]) (hj45 (-1 : Int32) N)

set_option maxRecDepth 100000 in
set_option maxHeartbeats 4000000 in
theorem li_M_foldConstants_56 (G : gl_T) (M0 : mm_T) (p0 : Nat) (p1 : Nat) : ∀ (fu : Nat) (q2 : Int32) (q3 : Int32) (N : mm_T), im_I mi_M_foldConstants 24 554 G M0 sw_i (lf_M_foldConstants_56 p0 p1 fu q2 q3 N) 56 [some (.ref p0), some (.ref p1), some (.int q2), some (.int q3)] [] N := by
  intro fu
  induction fu with
  | zero => intro _ _ _; exact im_none
  | succ fu ih =>
    intro q2 q3 N
    show im_I mi_M_foldConstants 24 554 G M0 sw_i (lb_M_foldConstants_56 p0 p1 (lf_M_foldConstants_56 p0 p1 fu) q2 q3 N) 56 [some (.ref p0), some (.ref p1), some (.int q2), some (.int q3)] [] N
    unfold lb_M_foldConstants_56
    refine im_iload_n 34 56 rfl rfl ?_
    refine im_aload_n 35 57 rfl rfl ?_
    refine im_iconst 36 58 rfl rfl ?_
    refine im_ci (S := [.int q3]) (fun _ hv => cpV (fr' := 1) (lo' := 20) (i := 37) (As := [.int (1 : Int32)]) (S := [.int q3]) (a := p0) (c := 11) rfl lk_M_61 mw_M_get mv_M_get rfl ⟨by decide, rfl⟩ rfl rfl rfl (gd_some hv).1 (sp_M_get G hv)) (fun x7 => ?_)
    refine im_ic_ge 38 62 101 rfl (by decide) ?_ ?_
    · refine im_iload_n 61 101 rfl rfl ?_
      exact im_end rfl (wp_ireturn 62 102 rfl rfl)
    · refine im_aload_n 39 65 rfl rfl ?_
      refine im_iload_n 40 66 rfl rfl ?_
      refine im_iaload 41 67 rfl (fun x8 => ?_)
      refine im_iconst 42 68 rfl rfl ?_
      refine im_jp (fun j95 => ∀ (x9 : Int32) (M8 : mm_T), im_I mi_M_foldConstants 24 554 G M0 sw_i (j95 x9 M8) 95 [some (.ref p0), some (.ref p1), some (.int x9), some (.int q3)] [] M8) ?_ (fun j95 hj95 => ?_)
      · intro x9 M8
        show im_I mi_M_foldConstants 24 554 G M0 sw_i (_) 95 [some (.ref p0), some (.ref p1), some (.int x9), some (.int q3)] [] M8
        refine im_iincL 59 95 (fun x10 => [some (.ref p0), some (.ref p1), some (.int x9), some (.int x10)]) rfl rfl rfl rfl (fun _ => rfl) (fun x10 => ?_)
        refine im_goto 60 98 56 rfl (by decide) ?_
        exact im_less _ (by simp [lv_le]) (ih x9 x10 M8)
      refine im_ic_ne 43 69 75 rfl (by decide) ?_ ?_
      · refine im_aload_n 45 75 rfl rfl ?_
        refine im_iload_n 46 76 rfl rfl ?_
        refine im_iconst 47 77 rfl rfl ?_
        refine im_aload_n 48 78 rfl rfl ?_
        refine im_iload_n 49 79 rfl rfl ?_
        refine im_iconst 50 80 rfl rfl ?_
        refine im_ci (S := [.int (0 : Int32), .int q3, .ref p0]) (fun _ hv => cpV (fr' := 2) (lo' := 41) (i := 51) (As := [.int q3, .int (1 : Int32)]) (S := [.int (0 : Int32), .int q3, .ref p0]) (a := p0) (c := 11) rfl lk_M_96 mw_M_it mv_M_it rfl ⟨by decide, rfl⟩ rfl rfl rfl (gd_some hv).1 (sp_M_it G hv)) (fun x11 => ?_)
        refine im_aload_n 52 84 rfl rfl ?_
        refine im_iload_n 53 85 rfl rfl ?_
        refine im_iaload 54 86 rfl (fun x12 => ?_)
        refine im_iconst 55 87 rfl rfl ?_
        refine im_iconst 56 88 rfl rfl ?_
        refine im_cWv (S := []) (fun _ hv => cpV (fr' := 3) (lo' := 65) (i := 57) (As := [.int q3, .int (0 : Int32), .int x11, .int x12, .int (0 : Int32), .int (0 : Int32)]) (S := []) (a := p0) (c := 11) rfl lk_M_76 mw_M_writes mv_M_writes rfl ⟨by decide, rfl⟩ rfl rfl rfl (gd_some hv).1 (sp_M_writes G hv)) (fun M9 => ?_)
        refine im_iincL 58 92 (fun x13 => [some (.ref p0), some (.ref p1), some (.int x13), some (.int q3)]) rfl rfl rfl rfl (fun _ => rfl) (fun x13 => ?_)
        exact im_less _ (by simp [lv_le]) (hj95 x13 M9)
      · refine im_goto 44 72 95 rfl (by decide) ?_
        exact im_less _ (by simp [lv_le]) (hj95 q2 N)

set_option maxRecDepth 100000 in
set_option maxHeartbeats 4000000 in
theorem ip_M_foldConstants (G : gl_T) (t : Nat) (M : mm_T) : im_I mi_M_foldConstants 24 554 G M sw_i (ff_M_foldConstants t M) 0 [some (.ref t), none, none, none] [] M := by
  unfold ff_M_foldConstants
  refine im_gd (fun hg => ?_)
  refine im_aload_n 0 0 rfl rfl ?_
  refine im_iconst 1 1 rfl rfl ?_
  refine im_putI 2 2 rfl fd_M_55 (Or.inl (by decide +kernel)) (by decide +kernel) (fun M1 => ?_)
  refine im_aload_n 3 5 rfl rfl ?_
  refine im_cWv (S := []) (fun _ hv => cpV (fr' := 2) (lo' := 43) (i := 4) (As := []) (S := []) (a := t) (c := 11) rfl lk_M_386 mw_M_keeps mv_M_keeps rfl ⟨by decide, rfl⟩ rfl rfl rfl (gd_some hv).1 (sp_M_keeps G hv)) (fun M2 => ?_)
  refine im_bipush 5 9 rfl rfl ?_
  refine im_newI 6 11 rfl (tb_m 218 (by decide +kernel) rfl) (fun x1 M3 => ?_)
  refine im_astore_n 7 13 [some (.ref t), some (.ref x1), none, none] rfl rfl rfl ?_
  refine im_iconst 8 14 rfl rfl ?_
  refine im_istore_n 9 15 [some (.ref t), some (.ref x1), some (.int (0 : Int32)), none] rfl rfl rfl ?_
  refine im_less [some (.ref t), some (.ref x1), some (.int (0 : Int32)), none] (by simp [lv_le]) ?_
  refine li_M_foldConstants_16 G M _ t x1 ?_ fu_L (0 : Int32) M3
  · intro M7
    show im_I mi_M_foldConstants 24 554 G M sw_i (_) 52 [some (.ref t), some (.ref x1), none, none] [] M7
    refine im_iconst 30 52 rfl rfl ?_
    refine im_istore_n 31 53 [some (.ref t), some (.ref x1), some (.int (0 : Int32)), none] rfl rfl rfl ?_
    refine im_iconst 32 54 rfl rfl ?_
    refine im_istore_n 33 55 [some (.ref t), some (.ref x1), some (.int (0 : Int32)), some (.int (0 : Int32))] rfl rfl rfl ?_
    refine im_less [some (.ref t), some (.ref x1), some (.int (0 : Int32)), some (.int (0 : Int32))] (by simp [lv_le]) ?_
    exact li_M_foldConstants_56 G M t x1 fu_L (0 : Int32) (0 : Int32) M7

theorem sp_M_foldConstants (G : gl_T) {t : Nat} {M : mm_T} {y : Int32 × mm_T} (h : ff_M_foldConstants t M = some y) : sp_S mi_M_foldConstants 24 554 G [.ref t] M (sw_i y).1 (sw_i y).2 := sp_of mo_M_foldConstants mw_M_foldConstants (Or.inl (by decide +kernel)) rfl rfl (Or.inl rfl) (ip_M_foldConstants G t M y h)

set_option maxRecDepth 100000 in
set_option maxHeartbeats 4000000 in
theorem ip_M_says (G : gl_T) (t : Nat) (a1 : Int32) (M : mm_T) : im_I mi_M_says 1 20 G M sw_v (ff_M_says t a1 M) 0 [some (.ref t), some (.int a1)] [] M := by
  unfold ff_M_says
  refine im_gd (fun hg => ?_)
  refine im_aload_n 0 0 rfl rfl ?_
  refine im_getR 1 1 rfl fd_M_42 (by decide +kernel) (fun x1 => ?_)
  refine im_aload_n 2 4 rfl rfl ?_
  refine im_getI 3 5 rfl fd_M_405 (by decide +kernel) (fun x2 => ?_)
  refine im_iload_n 4 8 rfl rfl ?_
  refine im_iastore 5 9 rfl (fun M1 => ?_)
  refine im_aload_n 6 10 rfl rfl ?_
  refine im_dup 7 11 rfl rfl ?_
  refine im_getI 8 12 rfl fd_M_405 (by decide +kernel) (fun x3 => ?_)
  refine im_iconst 9 15 rfl rfl ?_
  refine im_iadd 10 16 rfl ?_
  refine im_putI 11 17 rfl fd_M_405 (Or.inl (by decide +kernel)) (by decide +kernel) (fun M2 => ?_)
  exact im_end rfl (wp_return 12 20 rfl rfl)

theorem sp_M_says (G : gl_T) {t : Nat} {a1 : Int32} {M : mm_T} {y : mm_T} (h : ff_M_says t a1 M = some y) : sp_S mi_M_says 1 20 G [.ref t, .int a1] M (sw_v y).1 (sw_v y).2 := sp_of mo_M_says mw_M_says (Or.inl (by decide +kernel)) rfl rfl (Or.inl rfl) (ip_M_says G t a1 M y h)

set_option maxRecDepth 100000 in
set_option maxHeartbeats 4000000 in
theorem li_M_saysWord_2 (G : gl_T) (M0 : mm_T) (p0 : Nat) (p1 : Nat) : ∀ (fu : Nat) (q2 : Int32) (N : mm_T), im_I mi_M_saysWord 5 171 G M0 sw_v (lf_M_saysWord_2 p0 p1 fu q2 N) 2 [some (.ref p0), some (.ref p1), some (.int q2)] [] N := by
  intro fu
  induction fu with
  | zero => intro _ _; exact im_none
  | succ fu ih =>
    intro q2 N
    show im_I mi_M_saysWord 5 171 G M0 sw_v (lb_M_saysWord_2 p0 p1 (lf_M_saysWord_2 p0 p1 fu) q2 N) 2 [some (.ref p0), some (.ref p1), some (.int q2)] [] N
    unfold lb_M_saysWord_2
    refine im_iload_n 2 2 rfl rfl ?_
    refine im_aload_n 3 3 rfl rfl ?_
    refine im_ci (S := [.int q2]) (fun _ hv => cp_len (i := 4) (S := [.int q2]) rfl lm_M_248 rfl rfl hv) (fun x1 => ?_)
    refine im_ic_ge 5 7 25 rfl (by decide) ?_ ?_
    · exact im_end rfl (wp_return 13 25 rfl rfl)
    · refine im_aload_n 6 10 rfl rfl ?_
      refine im_aload_n 7 11 rfl rfl ?_
      refine im_iload_n 8 12 rfl rfl ?_
      refine im_ci (S := [.ref p0]) (fun _ hv => cp_chr (i := 9) (S := [.ref p0]) rfl lm_M_253 rfl rfl hv) (fun x2 => ?_)
      refine im_cWv (S := []) (fun _ hv => cpV (fr' := 1) (lo' := 20) (i := 10) (As := [.int x2]) (S := []) (a := p0) (c := 11) rfl lk_M_408 mw_M_says mv_M_says rfl ⟨by decide, rfl⟩ rfl rfl rfl (gd_some hv).1 (sp_M_says G hv)) (fun M1 => ?_)
      refine im_iincL 11 19 (fun x3 => [some (.ref p0), some (.ref p1), some (.int x3)]) rfl rfl rfl rfl (fun _ => rfl) (fun x3 => ?_)
      refine im_goto 12 22 2 rfl (by decide) ?_
      exact im_less _ (by simp [lv_le]) (ih x3 M1)

set_option maxRecDepth 100000 in
set_option maxHeartbeats 4000000 in
theorem ip_M_saysWord (G : gl_T) (t : Nat) (a1 : Nat) (M : mm_T) : im_I mi_M_saysWord 5 171 G M sw_v (ff_M_saysWord t a1 M) 0 [some (.ref t), some (.ref a1), none] [] M := by
  unfold ff_M_saysWord
  refine im_gd (fun hg => ?_)
  refine im_iconst 0 0 rfl rfl ?_
  refine im_istore_n 1 1 [some (.ref t), some (.ref a1), some (.int (0 : Int32))] rfl rfl rfl ?_
  refine im_less [some (.ref t), some (.ref a1), some (.int (0 : Int32))] (by simp [lv_le]) ?_
  exact li_M_saysWord_2 G M t a1 fu_L (0 : Int32) M

theorem sp_M_saysWord (G : gl_T) {t : Nat} {a1 : Nat} {M : mm_T} {y : mm_T} (h : ff_M_saysWord t a1 M = some y) : sp_S mi_M_saysWord 5 171 G [.ref t, .ref a1] M (sw_v y).1 (sw_v y).2 := sp_of mo_M_saysWord mw_M_saysWord (Or.inl (by decide +kernel)) rfl rfl (Or.inl rfl) (ip_M_saysWord G t a1 M y h)

set_option maxRecDepth 100000 in
set_option maxHeartbeats 4000000 in
theorem ip_M_saysVariable (G : gl_T) (t : Nat) (a1 : Int32) (M : mm_T) : im_I mi_M_saysVariable 2 41 G M sw_v (ff_M_saysVariable t a1 M) 0 [some (.ref t), some (.int a1)] [] M := by
  unfold ff_M_saysVariable
  refine im_gd (fun hg => ?_)
  refine im_aload_n 0 0 rfl rfl ?_
  refine im_bipush 1 1 rfl rfl ?_
  refine im_cWv (S := []) (fun _ hv => cpV (fr' := 1) (lo' := 20) (i := 2) (As := [.int (32 : Int32)]) (S := []) (a := t) (c := 11) rfl lk_M_408 mw_M_says mv_M_says rfl ⟨by decide, rfl⟩ rfl rfl rfl (gd_some hv).1 (sp_M_says G hv)) (fun M1 => ?_)
  refine im_aload_n 3 6 rfl rfl ?_
  refine im_bipush 4 7 rfl rfl ?_
  refine im_iload_n 5 9 rfl rfl ?_
  refine im_iadd 6 10 rfl ?_
  refine im_cWv (S := []) (fun _ hv => cpV (fr' := 1) (lo' := 20) (i := 7) (As := [.int ((97 : Int32) + a1)]) (S := []) (a := t) (c := 11) rfl lk_M_408 mw_M_says mv_M_says rfl ⟨by decide, rfl⟩ rfl rfl rfl (gd_some hv).1 (sp_M_says G hv)) (fun M2 => ?_)
  exact im_end rfl (wp_return 8 14 rfl rfl)

theorem sp_M_saysVariable (G : gl_T) {t : Nat} {a1 : Int32} {M : mm_T} {y : mm_T} (h : ff_M_saysVariable t a1 M = some y) : sp_S mi_M_saysVariable 2 41 G [.ref t, .int a1] M (sw_v y).1 (sw_v y).2 := sp_of mo_M_saysVariable mw_M_saysVariable (Or.inl (by decide +kernel)) rfl rfl (Or.inl rfl) (ip_M_saysVariable G t a1 M y h)

set_option maxRecDepth 100000 in
set_option maxHeartbeats 4000000 in
theorem ip_M_saysNumber (G : gl_T) (t : Nat) (a1 : Int32) (M : mm_T) : im_I mi_M_saysNumber 2 41 G M sw_v (ff_M_saysNumber t a1 M) 0 [some (.ref t), some (.int a1)] [] M := by
  unfold ff_M_saysNumber
  refine im_gd (fun hg => ?_)
  refine im_aload_n 0 0 rfl rfl ?_
  refine im_bipush 1 1 rfl rfl ?_
  refine im_cWv (S := []) (fun _ hv => cpV (fr' := 1) (lo' := 20) (i := 2) (As := [.int (32 : Int32)]) (S := []) (a := t) (c := 11) rfl lk_M_408 mw_M_says mv_M_says rfl ⟨by decide, rfl⟩ rfl rfl rfl (gd_some hv).1 (sp_M_says G hv)) (fun M1 => ?_)
  refine im_iload_n 3 6 rfl rfl ?_
  refine im_bipush 4 7 rfl rfl ?_
  refine im_jp (fun j23 => ∀  (M2 : mm_T), im_I mi_M_saysNumber 2 41 G M sw_v (j23 M2) 23 [some (.ref t), some (.int a1)] [] M2) ?_ (fun j23 hj23 => ?_)
  · intro M2
    show im_I mi_M_saysNumber 2 41 G M sw_v (_) 23 [some (.ref t), some (.int a1)] [] M2
    refine im_iload_n 13 23 rfl rfl ?_
    refine im_bipush 14 24 rfl rfl ?_
    refine im_jp (fun j43 => ∀  (M3 : mm_T), im_I mi_M_saysNumber 2 41 G M sw_v (j43 M3) 43 [some (.ref t), some (.int a1)] [] M3) ?_ (fun j43 hj43 => ?_)
    · intro M3
      show im_I mi_M_saysNumber 2 41 G M sw_v (_) 43 [some (.ref t), some (.int a1)] [] M3
      refine im_aload_n 25 43 rfl rfl ?_
      refine im_bipush 26 44 rfl rfl ?_
      refine im_iload_n 27 46 rfl rfl ?_
      refine im_bipush 28 47 rfl rfl ?_
      refine im_irem 29 49 rfl (fun x1 => ?_)
      refine im_iadd 30 50 rfl ?_
      refine im_cWv (S := []) (fun _ hv => cpV (fr' := 1) (lo' := 20) (i := 31) (As := [.int ((48 : Int32) + x1)]) (S := []) (a := t) (c := 11) rfl lk_M_408 mw_M_says mv_M_says rfl ⟨by decide, rfl⟩ rfl rfl rfl (gd_some hv).1 (sp_M_says G hv)) (fun M4 => ?_)
      exact im_end rfl (wp_return 32 54 rfl rfl)
    refine im_ic_le 15 26 43 rfl (by decide) ?_ ?_
    · exact im_less _ (by simp [lv_le]) (hj43 M2)
    · refine im_aload_n 16 29 rfl rfl ?_
      refine im_bipush 17 30 rfl rfl ?_
      refine im_iload_n 18 32 rfl rfl ?_
      refine im_bipush 19 33 rfl rfl ?_
      refine im_idiv 20 35 rfl (fun x2 => ?_)
      refine im_bipush 21 36 rfl rfl ?_
      refine im_irem 22 38 rfl (fun x3 => ?_)
      refine im_iadd 23 39 rfl ?_
      refine im_cWv (S := []) (fun _ hv => cpV (fr' := 1) (lo' := 20) (i := 24) (As := [.int ((48 : Int32) + x3)]) (S := []) (a := t) (c := 11) rfl lk_M_408 mw_M_says mv_M_says rfl ⟨by decide, rfl⟩ rfl rfl rfl (gd_some hv).1 (sp_M_says G hv)) (fun M5 => ?_)
      exact im_less _ (by simp [lv_le]) (hj43 M5)
  refine im_ic_le 5 9 23 rfl (by decide) ?_ ?_
  · exact im_less _ (by simp [lv_le]) (hj23 M1)
  · refine im_aload_n 6 12 rfl rfl ?_
    refine im_bipush 7 13 rfl rfl ?_
    refine im_iload_n 8 15 rfl rfl ?_
    refine im_bipush 9 16 rfl rfl ?_
    refine im_idiv 10 18 rfl (fun x4 => ?_)
    refine im_iadd 11 19 rfl ?_
    refine im_cWv (S := []) (fun _ hv => cpV (fr' := 1) (lo' := 20) (i := 12) (As := [.int ((48 : Int32) + x4)]) (S := []) (a := t) (c := 11) rfl lk_M_408 mw_M_says mv_M_says rfl ⟨by decide, rfl⟩ rfl rfl rfl (gd_some hv).1 (sp_M_says G hv)) (fun M6 => ?_)
    exact im_less _ (by simp [lv_le]) (hj23 M6)

theorem sp_M_saysNumber (G : gl_T) {t : Nat} {a1 : Int32} {M : mm_T} {y : mm_T} (h : ff_M_saysNumber t a1 M = some y) : sp_S mi_M_saysNumber 2 41 G [.ref t, .int a1] M (sw_v y).1 (sw_v y).2 := sp_of mo_M_saysNumber mw_M_saysNumber (Or.inl (by decide +kernel)) rfl rfl (Or.inl rfl) (ip_M_saysNumber G t a1 M y h)

set_option maxRecDepth 100000 in
set_option maxHeartbeats 4000000 in
theorem ip_M_saysItem (G : gl_T) (t : Nat) (a1 : Int32) (M : mm_T) : im_I mi_M_saysItem 6 193 G M sw_v (ff_M_saysItem t a1 M) 0 [some (.ref t), some (.int a1)] [] M := by
  unfold ff_M_saysItem
  refine im_gd (fun hg => ?_)
  refine im_aload_n 0 0 rfl rfl ?_
  refine im_iload_n 1 1 rfl rfl ?_
  refine im_iconst 2 2 rfl rfl ?_
  refine im_ci (S := []) (fun _ hv => cpV (fr' := 2) (lo' := 41) (i := 3) (As := [.int a1, .int (0 : Int32)]) (S := []) (a := t) (c := 11) rfl lk_M_96 mw_M_it mv_M_it rfl ⟨by decide, rfl⟩ rfl rfl rfl (gd_some hv).1 (sp_M_it G hv)) (fun x1 => ?_)
  refine im_jp (fun j187 => ∀  (M1 : mm_T), im_I mi_M_saysItem 6 193 G M sw_v (j187 M1) 187 [some (.ref t), none] [] M1) ?_ (fun j187 hj187 => ?_)
  · intro M1
    show im_I mi_M_saysItem 6 193 G M sw_v (_) 187 [some (.ref t), none] [] M1
    refine im_aload_n 86 187 rfl rfl ?_
    refine im_bipush 87 188 rfl rfl ?_
    refine im_cWv (S := []) (fun _ hv => cpV (fr' := 1) (lo' := 20) (i := 88) (As := [.int (59 : Int32)]) (S := []) (a := t) (c := 11) rfl lk_M_408 mw_M_says mv_M_says rfl ⟨by decide, rfl⟩ rfl rfl rfl (gd_some hv).1 (sp_M_says G hv)) (fun M2 => ?_)
    exact im_end rfl (wp_return 89 193 rfl rfl)
  refine im_ite (fun h1 => ?_) (fun h1 => ?_)
  · refine im_tabIn 4 6 32 rfl (off := 26) (by rw [h1]; decide) (by rw [h1]; decide) (by rw [h1]; rfl) (by decide) ?_
    refine im_aload_n 5 32 rfl rfl ?_
    refine im_ldcWS 6 33 rfl (List.mem_of_getElem? (i := 39) rfl) ?_
    refine im_cWv (S := []) (fun _ hv => cpV (fr' := 5) (lo' := 171) (i := 7) (As := [.ref (st_B + 2)]) (S := []) (a := t) (c := 11) rfl lk_M_411 mw_M_saysWord mv_M_saysWord rfl ⟨by decide, rfl⟩ rfl rfl rfl (gd_some hv).1 (sp_M_saysWord G hv)) (fun M3 => ?_)
    refine im_aload_n 8 39 rfl rfl ?_
    refine im_aload_n 9 40 rfl rfl ?_
    refine im_iload_n 10 41 rfl rfl ?_
    refine im_iconst 11 42 rfl rfl ?_
    refine im_ci (S := [.ref t]) (fun _ hv => cpV (fr' := 2) (lo' := 41) (i := 12) (As := [.int a1, .int (1 : Int32)]) (S := [.ref t]) (a := t) (c := 11) rfl lk_M_96 mw_M_it mv_M_it rfl ⟨by decide, rfl⟩ rfl rfl rfl (gd_some hv).1 (sp_M_it G hv)) (fun x2 => ?_)
    refine im_cWv (S := []) (fun _ hv => cpV (fr' := 2) (lo' := 41) (i := 13) (As := [.int x2]) (S := []) (a := t) (c := 11) rfl lk_M_415 mw_M_saysVariable mv_M_saysVariable rfl ⟨by decide, rfl⟩ rfl rfl rfl (gd_some hv).1 (sp_M_saysVariable G hv)) (fun M4 => ?_)
    refine im_aload_n 14 49 rfl rfl ?_
    refine im_aload_n 15 50 rfl rfl ?_
    refine im_iload_n 16 51 rfl rfl ?_
    refine im_iconst 17 52 rfl rfl ?_
    refine im_ci (S := [.ref t]) (fun _ hv => cpV (fr' := 2) (lo' := 41) (i := 18) (As := [.int a1, .int (2 : Int32)]) (S := [.ref t]) (a := t) (c := 11) rfl lk_M_96 mw_M_it mv_M_it rfl ⟨by decide, rfl⟩ rfl rfl rfl (gd_some hv).1 (sp_M_it G hv)) (fun x3 => ?_)
    refine im_cWv (S := []) (fun _ hv => cpV (fr' := 2) (lo' := 41) (i := 19) (As := [.int x3]) (S := []) (a := t) (c := 11) rfl lk_M_418 mw_M_saysNumber mv_M_saysNumber rfl ⟨by decide, rfl⟩ rfl rfl rfl (gd_some hv).1 (sp_M_saysNumber G hv)) (fun M5 => ?_)
    refine im_goto 20 59 187 rfl (by decide) ?_
    exact im_less _ (by simp [lv_le]) (hj187 M5)
  refine im_ite (fun h2 => ?_) (fun h2 => ?_)
  · refine im_tabIn 4 6 62 rfl (off := 56) (by rw [h2]; decide) (by rw [h2]; decide) (by rw [h2]; rfl) (by decide) ?_
    refine im_aload_n 21 62 rfl rfl ?_
    refine im_ldcWS 22 63 rfl (List.mem_of_getElem? (i := 40) rfl) ?_
    refine im_cWv (S := []) (fun _ hv => cpV (fr' := 5) (lo' := 171) (i := 23) (As := [.ref (st_B + 3)]) (S := []) (a := t) (c := 11) rfl lk_M_411 mw_M_saysWord mv_M_saysWord rfl ⟨by decide, rfl⟩ rfl rfl rfl (gd_some hv).1 (sp_M_saysWord G hv)) (fun M6 => ?_)
    refine im_aload_n 24 69 rfl rfl ?_
    refine im_aload_n 25 70 rfl rfl ?_
    refine im_iload_n 26 71 rfl rfl ?_
    refine im_iconst 27 72 rfl rfl ?_
    refine im_ci (S := [.ref t]) (fun _ hv => cpV (fr' := 2) (lo' := 41) (i := 28) (As := [.int a1, .int (1 : Int32)]) (S := [.ref t]) (a := t) (c := 11) rfl lk_M_96 mw_M_it mv_M_it rfl ⟨by decide, rfl⟩ rfl rfl rfl (gd_some hv).1 (sp_M_it G hv)) (fun x4 => ?_)
    refine im_cWv (S := []) (fun _ hv => cpV (fr' := 2) (lo' := 41) (i := 29) (As := [.int x4]) (S := []) (a := t) (c := 11) rfl lk_M_415 mw_M_saysVariable mv_M_saysVariable rfl ⟨by decide, rfl⟩ rfl rfl rfl (gd_some hv).1 (sp_M_saysVariable G hv)) (fun M7 => ?_)
    refine im_aload_n 30 79 rfl rfl ?_
    refine im_aload_n 31 80 rfl rfl ?_
    refine im_iload_n 32 81 rfl rfl ?_
    refine im_iconst 33 82 rfl rfl ?_
    refine im_ci (S := [.ref t]) (fun _ hv => cpV (fr' := 2) (lo' := 41) (i := 34) (As := [.int a1, .int (2 : Int32)]) (S := [.ref t]) (a := t) (c := 11) rfl lk_M_96 mw_M_it mv_M_it rfl ⟨by decide, rfl⟩ rfl rfl rfl (gd_some hv).1 (sp_M_it G hv)) (fun x5 => ?_)
    refine im_cWv (S := []) (fun _ hv => cpV (fr' := 2) (lo' := 41) (i := 35) (As := [.int x5]) (S := []) (a := t) (c := 11) rfl lk_M_415 mw_M_saysVariable mv_M_saysVariable rfl ⟨by decide, rfl⟩ rfl rfl rfl (gd_some hv).1 (sp_M_saysVariable G hv)) (fun M8 => ?_)
    refine im_goto 36 89 187 rfl (by decide) ?_
    exact im_less _ (by simp [lv_le]) (hj187 M8)
  refine im_ite (fun h3 => ?_) (fun h3 => ?_)
  · refine im_tabIn 4 6 92 rfl (off := 86) (by rw [h3]; decide) (by rw [h3]; decide) (by rw [h3]; rfl) (by decide) ?_
    refine im_aload_n 37 92 rfl rfl ?_
    refine im_ldcWS 38 93 rfl (List.mem_of_getElem? (i := 41) rfl) ?_
    refine im_cWv (S := []) (fun _ hv => cpV (fr' := 5) (lo' := 171) (i := 39) (As := [.ref (st_B + 4)]) (S := []) (a := t) (c := 11) rfl lk_M_411 mw_M_saysWord mv_M_saysWord rfl ⟨by decide, rfl⟩ rfl rfl rfl (gd_some hv).1 (sp_M_saysWord G hv)) (fun M9 => ?_)
    refine im_aload_n 40 99 rfl rfl ?_
    refine im_aload_n 41 100 rfl rfl ?_
    refine im_iload_n 42 101 rfl rfl ?_
    refine im_iconst 43 102 rfl rfl ?_
    refine im_ci (S := [.ref t]) (fun _ hv => cpV (fr' := 2) (lo' := 41) (i := 44) (As := [.int a1, .int (1 : Int32)]) (S := [.ref t]) (a := t) (c := 11) rfl lk_M_96 mw_M_it mv_M_it rfl ⟨by decide, rfl⟩ rfl rfl rfl (gd_some hv).1 (sp_M_it G hv)) (fun x6 => ?_)
    refine im_cWv (S := []) (fun _ hv => cpV (fr' := 2) (lo' := 41) (i := 45) (As := [.int x6]) (S := []) (a := t) (c := 11) rfl lk_M_415 mw_M_saysVariable mv_M_saysVariable rfl ⟨by decide, rfl⟩ rfl rfl rfl (gd_some hv).1 (sp_M_saysVariable G hv)) (fun M10 => ?_)
    refine im_aload_n 46 109 rfl rfl ?_
    refine im_aload_n 47 110 rfl rfl ?_
    refine im_iload_n 48 111 rfl rfl ?_
    refine im_iconst 49 112 rfl rfl ?_
    refine im_ci (S := [.ref t]) (fun _ hv => cpV (fr' := 2) (lo' := 41) (i := 50) (As := [.int a1, .int (2 : Int32)]) (S := [.ref t]) (a := t) (c := 11) rfl lk_M_96 mw_M_it mv_M_it rfl ⟨by decide, rfl⟩ rfl rfl rfl (gd_some hv).1 (sp_M_it G hv)) (fun x7 => ?_)
    refine im_cWv (S := []) (fun _ hv => cpV (fr' := 2) (lo' := 41) (i := 51) (As := [.int x7]) (S := []) (a := t) (c := 11) rfl lk_M_415 mw_M_saysVariable mv_M_saysVariable rfl ⟨by decide, rfl⟩ rfl rfl rfl (gd_some hv).1 (sp_M_saysVariable G hv)) (fun M11 => ?_)
    refine im_aload_n 52 119 rfl rfl ?_
    refine im_aload_n 53 120 rfl rfl ?_
    refine im_iload_n 54 121 rfl rfl ?_
    refine im_iconst 55 122 rfl rfl ?_
    refine im_ci (S := [.ref t]) (fun _ hv => cpV (fr' := 2) (lo' := 41) (i := 56) (As := [.int a1, .int (3 : Int32)]) (S := [.ref t]) (a := t) (c := 11) rfl lk_M_96 mw_M_it mv_M_it rfl ⟨by decide, rfl⟩ rfl rfl rfl (gd_some hv).1 (sp_M_it G hv)) (fun x8 => ?_)
    refine im_jp (fun j154 => ∀ (x9 : Nat), im_I mi_M_saysItem 6 193 G M sw_v (j154 x9) 154 [some (.ref t), some (.int a1)] [.ref x9, .ref t] M11) ?_ (fun j154 hj154 => ?_)
    · intro x9
      show im_I mi_M_saysItem 6 193 G M sw_v (_) 154 [some (.ref t), some (.int a1)] [.ref x9, .ref t] M11
      refine im_cWv (S := []) (fun _ hv => cpV (fr' := 5) (lo' := 171) (i := 69) (As := [.ref x9]) (S := []) (a := t) (c := 11) rfl lk_M_411 mw_M_saysWord mv_M_saysWord rfl ⟨by decide, rfl⟩ rfl rfl rfl (gd_some hv).1 (sp_M_saysWord G hv)) (fun M12 => ?_)
      refine im_aload_n 70 157 rfl rfl ?_
      refine im_aload_n 71 158 rfl rfl ?_
      refine im_iload_n 72 159 rfl rfl ?_
      refine im_iconst 73 160 rfl rfl ?_
      refine im_ci (S := [.ref t]) (fun _ hv => cpV (fr' := 2) (lo' := 41) (i := 74) (As := [.int a1, .int (4 : Int32)]) (S := [.ref t]) (a := t) (c := 11) rfl lk_M_96 mw_M_it mv_M_it rfl ⟨by decide, rfl⟩ rfl rfl rfl (gd_some hv).1 (sp_M_it G hv)) (fun x10 => ?_)
      refine im_cWv (S := []) (fun _ hv => cpV (fr' := 2) (lo' := 41) (i := 75) (As := [.int x10]) (S := []) (a := t) (c := 11) rfl lk_M_415 mw_M_saysVariable mv_M_saysVariable rfl ⟨by decide, rfl⟩ rfl rfl rfl (gd_some hv).1 (sp_M_saysVariable G hv)) (fun M13 => ?_)
      refine im_goto 76 167 187 rfl (by decide) ?_
      exact im_less _ (by simp [lv_le]) (hj187 M13)
    refine im_if_ne 57 126 135 rfl (by decide) ?_ ?_
    · refine im_aload_n 60 135 rfl rfl ?_
      refine im_iload_n 61 136 rfl rfl ?_
      refine im_iconst 62 137 rfl rfl ?_
      refine im_ci (S := [.ref t]) (fun _ hv => cpV (fr' := 2) (lo' := 41) (i := 63) (As := [.int a1, .int (3 : Int32)]) (S := [.ref t]) (a := t) (c := 11) rfl lk_M_96 mw_M_it mv_M_it rfl ⟨by decide, rfl⟩ rfl rfl rfl (gd_some hv).1 (sp_M_it G hv)) (fun x11 => ?_)
      refine im_iconst 64 141 rfl rfl ?_
      refine im_ic_ne 65 142 151 rfl (by decide) ?_ ?_
      · refine im_ldcWS 68 151 rfl (List.mem_of_getElem? (i := 51) rfl) ?_
        exact im_less _ (by simp [lv_le]) (hj154 ((st_B + 27)))
      · refine im_ldcWS 66 145 rfl (List.mem_of_getElem? (i := 50) rfl) ?_
        refine im_goto 67 148 154 rfl (by decide) ?_
        exact im_less _ (by simp [lv_le]) (hj154 ((st_B + 26)))
    · refine im_ldcWS 58 129 rfl (List.mem_of_getElem? (i := 49) rfl) ?_
      refine im_goto 59 132 154 rfl (by decide) ?_
      exact im_less _ (by simp [lv_le]) (hj154 ((st_B + 25)))
  refine im_tabOut 4 6 170 rfl (by have := lv_neT (k := 0) (a := 0) h1 rfl; have := lv_neT (k := 1) (a := 1) h2 rfl; have := lv_neT (k := 2) (a := 2) h3 rfl; omega) (by decide) ?_
  refine im_aload_n 77 170 rfl rfl ?_
  refine im_ldcWS 78 171 rfl (List.mem_of_getElem? (i := 42) rfl) ?_
  refine im_cWv (S := []) (fun _ hv => cpV (fr' := 5) (lo' := 171) (i := 79) (As := [.ref (st_B + 5)]) (S := []) (a := t) (c := 11) rfl lk_M_411 mw_M_saysWord mv_M_saysWord rfl ⟨by decide, rfl⟩ rfl rfl rfl (gd_some hv).1 (sp_M_saysWord G hv)) (fun M14 => ?_)
  refine im_aload_n 80 177 rfl rfl ?_
  refine im_aload_n 81 178 rfl rfl ?_
  refine im_iload_n 82 179 rfl rfl ?_
  refine im_iconst 83 180 rfl rfl ?_
  refine im_ci (S := [.ref t]) (fun _ hv => cpV (fr' := 2) (lo' := 41) (i := 84) (As := [.int a1, .int (2 : Int32)]) (S := [.ref t]) (a := t) (c := 11) rfl lk_M_96 mw_M_it mv_M_it rfl ⟨by decide, rfl⟩ rfl rfl rfl (gd_some hv).1 (sp_M_it G hv)) (fun x12 => ?_)
  refine im_cWv (S := []) (fun _ hv => cpV (fr' := 2) (lo' := 41) (i := 85) (As := [.int x12]) (S := []) (a := t) (c := 11) rfl lk_M_415 mw_M_saysVariable mv_M_saysVariable rfl ⟨by decide, rfl⟩ rfl rfl rfl (gd_some hv).1 (sp_M_saysVariable G hv)) (fun M15 => ?_)
  exact im_less _ (by simp [lv_le]) (hj187 M15)

theorem sp_M_saysItem (G : gl_T) {t : Nat} {a1 : Int32} {M : mm_T} {y : mm_T} (h : ff_M_saysItem t a1 M = some y) : sp_S mi_M_saysItem 6 193 G [.ref t, .int a1] M (sw_v y).1 (sw_v y).2 := sp_of mo_M_saysItem mw_M_saysItem (Or.inl (by decide +kernel)) rfl rfl (Or.inl rfl) (ip_M_saysItem G t a1 M y h)

set_option maxRecDepth 100000 in
set_option maxHeartbeats 4000000 in
theorem li_M_saysExit_62 (G : gl_T) (M0 : mm_T) (k0 : mm_T → Option (mm_T)) (p0 : Nat) (p1 : Int32) (hk0 : ∀ (N : mm_T), im_I mi_M_saysExit 6 193 G M0 sw_v (k0 N) 87 [some (.ref p0), none, none] [] N) : ∀ (fu : Nat) (q2 : Int32) (N : mm_T), im_I mi_M_saysExit 6 193 G M0 sw_v (lf_M_saysExit_62 k0 p0 p1 fu q2 N) 62 [some (.ref p0), some (.int p1), some (.int q2)] [] N := by
  intro fu
  induction fu with
  | zero => intro _ _; exact im_none
  | succ fu ih =>
    intro q2 N
    show im_I mi_M_saysExit 6 193 G M0 sw_v (lb_M_saysExit_62 k0 p0 p1 (lf_M_saysExit_62 k0 p0 p1 fu) q2 N) 62 [some (.ref p0), some (.int p1), some (.int q2)] [] N
    unfold lb_M_saysExit_62
    refine im_iload_n 34 62 rfl rfl ?_
    refine im_aload_n 35 63 rfl rfl ?_
    refine im_iload_n 36 64 rfl rfl ?_
    refine im_ci (S := [.int q2]) (fun _ hv => cpV (fr' := 3) (lo' := 63) (i := 37) (As := [.int p1]) (S := [.int q2]) (a := p0) (c := 11) rfl lk_M_90 mw_M_ways mv_M_ways rfl ⟨by decide, rfl⟩ rfl rfl rfl (gd_some hv).1 (sp_M_ways G hv)) (fun x4 => ?_)
    refine im_ic_ge 38 68 87 rfl (by decide) ?_ ?_
    · exact im_less _ (by simp [lv_le]) (hk0 N)
    · refine im_aload_n 39 71 rfl rfl ?_
      refine im_aload_n 40 72 rfl rfl ?_
      refine im_iload_n 41 73 rfl rfl ?_
      refine im_iload_n 42 74 rfl rfl ?_
      refine im_ci (S := [.ref p0]) (fun _ hv => cpV (fr' := 3) (lo' := 63) (i := 43) (As := [.int p1, .int q2]) (S := [.ref p0]) (a := p0) (c := 11) rfl lk_M_93 mw_M_way mv_M_way rfl ⟨by decide, rfl⟩ rfl rfl rfl (gd_some hv).1 (sp_M_way G hv)) (fun x5 => ?_)
      refine im_cWv (S := []) (fun _ hv => cpV (fr' := 2) (lo' := 41) (i := 44) (As := [.int x5]) (S := []) (a := p0) (c := 11) rfl lk_M_418 mw_M_saysNumber mv_M_saysNumber rfl ⟨by decide, rfl⟩ rfl rfl rfl (gd_some hv).1 (sp_M_saysNumber G hv)) (fun M4 => ?_)
      refine im_iincL 45 81 (fun x6 => [some (.ref p0), some (.int p1), some (.int x6)]) rfl rfl rfl rfl (fun _ => rfl) (fun x6 => ?_)
      refine im_goto 46 84 62 rfl (by decide) ?_
      exact im_less _ (by simp [lv_le]) (ih x6 M4)

set_option maxRecDepth 100000 in
set_option maxHeartbeats 4000000 in
theorem ip_M_saysExit (G : gl_T) (t : Nat) (a1 : Int32) (M : mm_T) : im_I mi_M_saysExit 6 193 G M sw_v (ff_M_saysExit t a1 M) 0 [some (.ref t), some (.int a1), none] [] M := by
  unfold ff_M_saysExit
  refine im_gd (fun hg => ?_)
  refine im_aload_n 0 0 rfl rfl ?_
  refine im_iload_n 1 1 rfl rfl ?_
  refine im_iconst 2 2 rfl rfl ?_
  refine im_ci (S := []) (fun _ hv => cpV (fr' := 2) (lo' := 41) (i := 3) (As := [.int a1, .int (1 : Int32)]) (S := []) (a := t) (c := 11) rfl lk_M_80 mw_M_bl mv_M_bl rfl ⟨by decide, rfl⟩ rfl rfl rfl (gd_some hv).1 (sp_M_bl G hv)) (fun x1 => ?_)
  refine im_jp (fun j16 => ∀  (M1 : mm_T), im_I mi_M_saysExit 6 193 G M sw_v (j16 M1) 16 [some (.ref t), some (.int a1), none] [] M1) ?_ (fun j16 hj16 => ?_)
  · intro M1
    show im_I mi_M_saysExit 6 193 G M sw_v (_) 16 [some (.ref t), some (.int a1), none] [] M1
    refine im_aload_n 8 16 rfl rfl ?_
    refine im_iload_n 9 17 rfl rfl ?_
    refine im_iconst 10 18 rfl rfl ?_
    refine im_ci (S := []) (fun _ hv => cpV (fr' := 2) (lo' := 41) (i := 11) (As := [.int a1, .int (1 : Int32)]) (S := []) (a := t) (c := 11) rfl lk_M_80 mw_M_bl mv_M_bl rfl ⟨by decide, rfl⟩ rfl rfl rfl (gd_some hv).1 (sp_M_bl G hv)) (fun x2 => ?_)
    refine im_iconst 12 22 rfl rfl ?_
    refine im_jp (fun j33 => ∀  (M2 : mm_T), im_I mi_M_saysExit 6 193 G M sw_v (j33 M2) 33 [some (.ref t), some (.int a1), none] [] M2) ?_ (fun j33 hj33 => ?_)
    · intro M2
      show im_I mi_M_saysExit 6 193 G M sw_v (_) 33 [some (.ref t), some (.int a1), none] [] M2
      refine im_aload_n 17 33 rfl rfl ?_
      refine im_iload_n 18 34 rfl rfl ?_
      refine im_iconst 19 35 rfl rfl ?_
      refine im_ci (S := []) (fun _ hv => cpV (fr' := 2) (lo' := 41) (i := 20) (As := [.int a1, .int (1 : Int32)]) (S := []) (a := t) (c := 11) rfl lk_M_80 mw_M_bl mv_M_bl rfl ⟨by decide, rfl⟩ rfl rfl rfl (gd_some hv).1 (sp_M_bl G hv)) (fun x3 => ?_)
      refine im_iconst 21 39 rfl rfl ?_
      refine im_jp (fun j60 => ∀  (M3 : mm_T), im_I mi_M_saysExit 6 193 G M sw_v (j60 M3) 60 [some (.ref t), some (.int a1), none] [] M3) ?_ (fun j60 hj60 => ?_)
      · intro M3
        show im_I mi_M_saysExit 6 193 G M sw_v (_) 60 [some (.ref t), some (.int a1), none] [] M3
        refine im_iconst 32 60 rfl rfl ?_
        refine im_istore_n 33 61 [some (.ref t), some (.int a1), some (.int (0 : Int32))] rfl rfl rfl ?_
        refine im_less [some (.ref t), some (.int a1), some (.int (0 : Int32))] (by simp [lv_le]) ?_
        refine li_M_saysExit_62 G M _ t a1 ?_ fu_L (0 : Int32) M3
        · intro M5
          show im_I mi_M_saysExit 6 193 G M sw_v (_) 87 [some (.ref t), none, none] [] M5
          refine im_aload_n 47 87 rfl rfl ?_
          refine im_bipush 48 88 rfl rfl ?_
          refine im_cWv (S := []) (fun _ hv => cpV (fr' := 1) (lo' := 20) (i := 49) (As := [.int (59 : Int32)]) (S := []) (a := t) (c := 11) rfl lk_M_408 mw_M_says mv_M_says rfl ⟨by decide, rfl⟩ rfl rfl rfl (gd_some hv).1 (sp_M_says G hv)) (fun M6 => ?_)
          exact im_end rfl (wp_return 50 93 rfl rfl)
      refine im_ic_ne 22 40 60 rfl (by decide) ?_ ?_
      · exact im_less _ (by simp [lv_le]) (hj60 M2)
      · refine im_aload_n 23 43 rfl rfl ?_
        refine im_ldcWS 24 44 rfl (List.mem_of_getElem? (i := 48) rfl) ?_
        refine im_cWv (S := []) (fun _ hv => cpV (fr' := 5) (lo' := 171) (i := 25) (As := [.ref (st_B + 11)]) (S := []) (a := t) (c := 11) rfl lk_M_411 mw_M_saysWord mv_M_saysWord rfl ⟨by decide, rfl⟩ rfl rfl rfl (gd_some hv).1 (sp_M_saysWord G hv)) (fun M7 => ?_)
        refine im_aload_n 26 50 rfl rfl ?_
        refine im_aload_n 27 51 rfl rfl ?_
        refine im_iload_n 28 52 rfl rfl ?_
        refine im_iconst 29 53 rfl rfl ?_
        refine im_ci (S := [.ref t]) (fun _ hv => cpV (fr' := 2) (lo' := 41) (i := 30) (As := [.int a1, .int (2 : Int32)]) (S := [.ref t]) (a := t) (c := 11) rfl lk_M_80 mw_M_bl mv_M_bl rfl ⟨by decide, rfl⟩ rfl rfl rfl (gd_some hv).1 (sp_M_bl G hv)) (fun x7 => ?_)
        refine im_cWv (S := []) (fun _ hv => cpV (fr' := 2) (lo' := 41) (i := 31) (As := [.int x7]) (S := []) (a := t) (c := 11) rfl lk_M_415 mw_M_saysVariable mv_M_saysVariable rfl ⟨by decide, rfl⟩ rfl rfl rfl (gd_some hv).1 (sp_M_saysVariable G hv)) (fun M8 => ?_)
        exact im_less _ (by simp [lv_le]) (hj60 M8)
    refine im_ic_ne 13 23 33 rfl (by decide) ?_ ?_
    · exact im_less _ (by simp [lv_le]) (hj33 M1)
    · refine im_aload_n 14 26 rfl rfl ?_
      refine im_ldcWS 15 27 rfl (List.mem_of_getElem? (i := 47) rfl) ?_
      refine im_cWv (S := []) (fun _ hv => cpV (fr' := 5) (lo' := 171) (i := 16) (As := [.ref (st_B + 10)]) (S := []) (a := t) (c := 11) rfl lk_M_411 mw_M_saysWord mv_M_saysWord rfl ⟨by decide, rfl⟩ rfl rfl rfl (gd_some hv).1 (sp_M_saysWord G hv)) (fun M9 => ?_)
      exact im_less _ (by simp [lv_le]) (hj33 M9)
  refine im_if_ne 4 6 16 rfl (by decide) ?_ ?_
  · exact im_less _ (by simp [lv_le]) (hj16 M)
  · refine im_aload_n 5 9 rfl rfl ?_
    refine im_ldcWS 6 10 rfl (List.mem_of_getElem? (i := 46) rfl) ?_
    refine im_cWv (S := []) (fun _ hv => cpV (fr' := 5) (lo' := 171) (i := 7) (As := [.ref (st_B + 9)]) (S := []) (a := t) (c := 11) rfl lk_M_411 mw_M_saysWord mv_M_saysWord rfl ⟨by decide, rfl⟩ rfl rfl rfl (gd_some hv).1 (sp_M_saysWord G hv)) (fun M10 => ?_)
    exact im_less _ (by simp [lv_le]) (hj16 M10)

theorem sp_M_saysExit (G : gl_T) {t : Nat} {a1 : Int32} {M : mm_T} {y : mm_T} (h : ff_M_saysExit t a1 M = some y) : sp_S mi_M_saysExit 6 193 G [.ref t, .int a1] M (sw_v y).1 (sw_v y).2 := sp_of mo_M_saysExit mw_M_saysExit (Or.inl (by decide +kernel)) rfl rfl (Or.inl rfl) (ip_M_saysExit G t a1 M y h)

set_option maxRecDepth 100000 in
set_option maxHeartbeats 4000000 in
theorem li_M_writeBlock_21 (G : gl_T) (M0 : mm_T) (k0 : mm_T → Option (Int32 × mm_T)) (p0 : Nat) (p1 : Int32) (hk0 : ∀ (N : mm_T), im_I mi_M_writeBlock 7 215 G M0 sw_i (k0 N) 41 [some (.ref p0), some (.int p1), none] [] N) : ∀ (fu : Nat) (q2 : Int32) (N : mm_T), im_I mi_M_writeBlock 7 215 G M0 sw_i (lf_M_writeBlock_21 k0 p0 p1 fu q2 N) 21 [some (.ref p0), some (.int p1), some (.int q2)] [] N := by
  intro fu
  induction fu with
  | zero => intro _ _; exact im_none
  | succ fu ih =>
    intro q2 N
    show im_I mi_M_writeBlock 7 215 G M0 sw_i (lb_M_writeBlock_21 k0 p0 p1 (lf_M_writeBlock_21 k0 p0 p1 fu) q2 N) 21 [some (.ref p0), some (.int p1), some (.int q2)] [] N
    unfold lb_M_writeBlock_21
    refine im_iload_n 13 21 rfl rfl ?_
    refine im_aload_n 14 22 rfl rfl ?_
    refine im_iload_n 15 23 rfl rfl ?_
    refine im_ci (S := [.int q2]) (fun _ hv => cpV (fr' := 4) (lo' := 86) (i := 16) (As := [.int p1]) (S := [.int q2]) (a := p0) (c := 11) rfl lk_M_87 mw_M_endOf mv_M_endOf rfl ⟨by decide, rfl⟩ rfl rfl rfl (gd_some hv).1 (sp_M_endOf G hv)) (fun x3 => ?_)
    refine im_ic_ge 17 27 41 rfl (by decide) ?_ ?_
    · exact im_less _ (by simp [lv_le]) (hk0 N)
    · refine im_aload_n 18 30 rfl rfl ?_
      refine im_iload_n 19 31 rfl rfl ?_
      refine im_cWv (S := []) (fun _ hv => cpV (fr' := 6) (lo' := 193) (i := 20) (As := [.int q2]) (S := []) (a := p0) (c := 11) rfl lk_M_427 mw_M_saysItem mv_M_saysItem rfl ⟨by decide, rfl⟩ rfl rfl rfl (gd_some hv).1 (sp_M_saysItem G hv)) (fun M3 => ?_)
      refine im_iincL 21 35 (fun x4 => [some (.ref p0), some (.int p1), some (.int x4)]) rfl rfl rfl rfl (fun _ => rfl) (fun x4 => ?_)
      refine im_goto 22 38 21 rfl (by decide) ?_
      exact im_less _ (by simp [lv_le]) (ih x4 M3)

set_option maxRecDepth 100000 in
set_option maxHeartbeats 4000000 in
theorem ip_M_writeBlock (G : gl_T) (t : Nat) (a1 : Int32) (M : mm_T) : im_I mi_M_writeBlock 7 215 G M sw_i (ff_M_writeBlock t a1 M) 0 [some (.ref t), some (.int a1), none] [] M := by
  unfold ff_M_writeBlock
  refine im_gd (fun hg => ?_)
  refine im_aload_n 0 0 rfl rfl ?_
  refine im_iload_n 1 1 rfl rfl ?_
  refine im_cWi (S := []) (fun _ _ hv => cpV (fr' := 2) (lo' := 42) (i := 2) (As := [.int a1]) (S := []) (a := t) (c := 11) rfl lk_M_329 mw_M_isBlock mv_M_isBlock rfl ⟨by decide, rfl⟩ rfl rfl rfl (gd_some hv).1 (sp_M_isBlock G hv)) (fun x1 M1 => ?_)
  refine im_if_ne 3 5 10 rfl (by decide) ?_ ?_
  · refine im_aload_n 6 10 rfl rfl ?_
    refine im_iconst 7 11 rfl rfl ?_
    refine im_putI 8 12 rfl fd_M_405 (Or.inl (by decide +kernel)) (by decide +kernel) (fun M2 => ?_)
    refine im_aload_n 9 15 rfl rfl ?_
    refine im_iload_n 10 16 rfl rfl ?_
    refine im_ci (S := []) (fun _ hv => cpV (fr' := 3) (lo' := 63) (i := 11) (As := [.int a1]) (S := []) (a := t) (c := 11) rfl lk_M_84 mw_M_firstOf mv_M_firstOf rfl ⟨by decide, rfl⟩ rfl rfl rfl (gd_some hv).1 (sp_M_firstOf G hv)) (fun x2 => ?_)
    refine im_istore_n 12 20 [some (.ref t), some (.int a1), some (.int x2)] rfl rfl rfl ?_
    refine im_less [some (.ref t), some (.int a1), some (.int x2)] (by simp [lv_le]) ?_
    refine li_M_writeBlock_21 G M _ t a1 ?_ fu_L x2 M2
    · intro M4
      show im_I mi_M_writeBlock 7 215 G M sw_i (_) 41 [some (.ref t), some (.int a1), none] [] M4
      refine im_aload_n 23 41 rfl rfl ?_
      refine im_iload_n 24 42 rfl rfl ?_
      refine im_cWv (S := []) (fun _ hv => cpV (fr' := 6) (lo' := 193) (i := 25) (As := [.int a1]) (S := []) (a := t) (c := 11) rfl lk_M_430 mw_M_saysExit mv_M_saysExit rfl ⟨by decide, rfl⟩ rfl rfl rfl (gd_some hv).1 (sp_M_saysExit G hv)) (fun M5 => ?_)
      refine im_aload_n 26 46 rfl rfl ?_
      refine im_getI 27 47 rfl fd_M_405 (by decide +kernel) (fun x5 => ?_)
      exact im_end rfl (wp_ireturn 28 50 rfl rfl)
  · refine im_iconst 4 8 rfl rfl ?_
    exact im_end rfl (wp_ireturn 5 9 rfl rfl)

theorem sp_M_writeBlock (G : gl_T) {t : Nat} {a1 : Int32} {M : mm_T} {y : Int32 × mm_T} (h : ff_M_writeBlock t a1 M = some y) : sp_S mi_M_writeBlock 7 215 G [.ref t, .int a1] M (sw_i y).1 (sw_i y).2 := sp_of mo_M_writeBlock mw_M_writeBlock (Or.inl (by decide +kernel)) rfl rfl (Or.inl rfl) (ip_M_writeBlock G t a1 M y h)

set_option maxRecDepth 100000 in
set_option maxHeartbeats 4000000 in
theorem ip_M_outputByte (G : gl_T) (t : Nat) (a1 : Int32) (M : mm_T) : im_I mi_M_outputByte 2 42 G M sw_i (ff_M_outputByte t a1 M) 0 [some (.ref t), some (.int a1)] [] M := by
  unfold ff_M_outputByte
  refine im_gd (fun hg => ?_)
  refine im_aload_n 0 0 rfl rfl ?_
  refine im_iconst 1 1 rfl rfl ?_
  refine im_putI 2 2 rfl fd_M_55 (Or.inl (by decide +kernel)) (by decide +kernel) (fun M1 => ?_)
  refine im_iload_n 3 5 rfl rfl ?_
  refine im_iconst 4 6 rfl rfl ?_
  refine im_aload_n 5 7 rfl rfl ?_
  refine im_getI 6 8 rfl fd_M_405 (by decide +kernel) (fun x1 => ?_)
  refine im_iconst 7 11 rfl rfl ?_
  refine im_isub 8 12 rfl ?_
  refine im_ci (S := []) (fun _ hv => cpS (fr' := 1) (lo' := 20) (i := 9) (As := [.int a1, .int (0 : Int32), .int (x1 - (1 : Int32))]) (S := []) rfl lk_M_124 mw_M_in mv_M_in rfl rfl rfl rfl (sp_M_in G hv)) (fun x2 => ?_)
  refine im_if_eq 10 16 28 rfl (by decide) ?_ ?_
  · refine im_iconst 16 28 rfl rfl ?_
    exact im_end rfl (wp_ireturn 17 29 rfl rfl)
  · refine im_aload_n 11 19 rfl rfl ?_
    refine im_getR 12 20 rfl fd_M_42 (by decide +kernel) (fun x3 => ?_)
    refine im_iload_n 13 23 rfl rfl ?_
    refine im_iaload 14 24 rfl (fun x4 => ?_)
    refine im_goto 15 25 29 rfl (by decide) ?_
    exact im_end rfl (wp_ireturn 17 29 rfl rfl)

theorem sp_M_outputByte (G : gl_T) {t : Nat} {a1 : Int32} {M : mm_T} {y : Int32 × mm_T} (h : ff_M_outputByte t a1 M = some y) : sp_S mi_M_outputByte 2 42 G [.ref t, .int a1] M (sw_i y).1 (sw_i y).2 := sp_of mo_M_outputByte mw_M_outputByte (Or.inl (by decide +kernel)) rfl rfl (Or.inl rfl) (ip_M_outputByte G t a1 M y h)

set_option maxRecDepth 100000 in
set_option maxHeartbeats 4000000 in
theorem ip_M_undo (G : gl_T) (t : Nat) (M : mm_T) : im_I mi_M_undo 2 43 G M sw_i (ff_M_undo t M) 0 [some (.ref t)] [] M := by
  unfold ff_M_undo
  refine im_gd (fun hg => ?_)
  refine im_aload_n 0 0 rfl rfl ?_
  refine im_iconst 1 1 rfl rfl ?_
  refine im_putI 2 2 rfl fd_M_55 (Or.inl (by decide +kernel)) (by decide +kernel) (fun M1 => ?_)
  refine im_aload_n 3 5 rfl rfl ?_
  refine im_getI 4 6 rfl fd_M_326 (by decide +kernel) (fun x1 => ?_)
  refine im_if_ne 5 9 19 rfl (by decide) ?_ ?_
  · refine im_aload_n 11 19 rfl rfl ?_
    refine im_dup 12 20 rfl rfl ?_
    refine im_getI 13 21 rfl fd_M_326 (by decide +kernel) (fun x2 => ?_)
    refine im_iconst 14 24 rfl rfl ?_
    refine im_isub 15 25 rfl ?_
    refine im_putI 16 26 rfl fd_M_326 (Or.inl (by decide +kernel)) (by decide +kernel) (fun M2 => ?_)
    refine im_aload_n 17 29 rfl rfl ?_
    refine im_iconst 18 30 rfl rfl ?_
    refine im_aload_n 19 31 rfl rfl ?_
    refine im_getI 20 32 rfl fd_M_326 (by decide +kernel) (fun x3 => ?_)
    refine im_iadd 21 35 rfl ?_
    refine im_iconst 22 36 rfl rfl ?_
    refine im_cWv (S := []) (fun _ hv => cpV (fr' := 1) (lo' := 20) (i := 23) (As := [.int ((1 : Int32) + x3), .int (0 : Int32)]) (S := []) (a := t) (c := 11) rfl lk_M_323 mw_M_copies mv_M_copies rfl ⟨by decide, rfl⟩ rfl rfl rfl (gd_some hv).1 (sp_M_copies G hv)) (fun M3 => ?_)
    refine im_aload_n 24 40 rfl rfl ?_
    refine im_getI 25 41 rfl fd_M_326 (by decide +kernel) (fun x4 => ?_)
    exact im_end rfl (wp_ireturn 26 44 rfl rfl)
  · refine im_aload_n 6 12 rfl rfl ?_
    refine im_iconst 7 13 rfl rfl ?_
    refine im_putI 8 14 rfl fd_M_55 (Or.inl (by decide +kernel)) (by decide +kernel) (fun M4 => ?_)
    refine im_iconst 9 17 rfl rfl ?_
    exact im_end rfl (wp_ireturn 10 18 rfl rfl)

theorem sp_M_undo (G : gl_T) {t : Nat} {M : mm_T} {y : Int32 × mm_T} (h : ff_M_undo t M = some y) : sp_S mi_M_undo 2 43 G [.ref t] M (sw_i y).1 (sw_i y).2 := sp_of mo_M_undo mw_M_undo (Or.inl (by decide +kernel)) rfl rfl (Or.inl rfl) (ip_M_undo G t M y h)

set_option maxRecDepth 100000 in
set_option maxHeartbeats 4000000 in
theorem ip_M_saveSnapshot (G : gl_T) (t : Nat) (a1 : Int32) (M : mm_T) : im_I mi_M_saveSnapshot 2 43 G M sw_v (ff_M_saveSnapshot t a1 M) 0 [some (.ref t), some (.int a1)] [] M := by
  unfold ff_M_saveSnapshot
  refine im_gd (fun hg => ?_)
  refine im_aload_n 0 0 rfl rfl ?_
  refine im_iconst 1 1 rfl rfl ?_
  refine im_putI 2 2 rfl fd_M_55 (Or.inl (by decide +kernel)) (by decide +kernel) (fun M1 => ?_)
  refine im_iload_n 3 5 rfl rfl ?_
  refine im_jp (fun j14 => im_I mi_M_saveSnapshot 2 43 G M sw_v (j14) 14 [some (.ref t), none] [] M1) ?_ (fun j14 hj14 => ?_)
  · show im_I mi_M_saveSnapshot 2 43 G M sw_v (_) 14 [some (.ref t), none] [] M1
    refine im_aload_n 8 14 rfl rfl ?_
    refine im_iconst 9 15 rfl rfl ?_
    refine im_putI 10 16 rfl fd_M_55 (Or.inl (by decide +kernel)) (by decide +kernel) (fun M2 => ?_)
    exact im_end rfl (wp_return 11 19 rfl rfl)
  refine im_if_lt 4 6 14 rfl (by decide) ?_ ?_
  · exact im_less _ (by simp [lv_le]) (hj14)
  · refine im_iload_n 5 9 rfl rfl ?_
    refine im_iconst 6 10 rfl rfl ?_
    refine im_ic_lt 7 11 20 rfl (by decide) ?_ ?_
    · refine im_aload_n 12 20 rfl rfl ?_
      refine im_iconst 13 21 rfl rfl ?_
      refine im_bipush 14 22 rfl rfl ?_
      refine im_iload_n 15 24 rfl rfl ?_
      refine im_iadd 16 25 rfl ?_
      refine im_cWv (S := []) (fun _ hv => cpV (fr' := 1) (lo' := 20) (i := 17) (As := [.int (0 : Int32), .int ((7 : Int32) + a1)]) (S := []) (a := t) (c := 11) rfl lk_M_323 mw_M_copies mv_M_copies rfl ⟨by decide, rfl⟩ rfl rfl rfl (gd_some hv).1 (sp_M_copies G hv)) (fun M3 => ?_)
      refine im_aload_n 18 29 rfl rfl ?_
      refine im_getR 19 30 rfl fd_M_13 (by decide +kernel) (fun x1 => ?_)
      refine im_iload_n 20 33 rfl rfl ?_
      refine im_iconst 21 34 rfl rfl ?_
      refine im_bastore 22 35 rfl (fun M4 => ?_)
      exact im_end rfl (wp_return 23 36 rfl rfl)
    · exact im_less _ (by simp [lv_le]) (hj14)

theorem sp_M_saveSnapshot (G : gl_T) {t : Nat} {a1 : Int32} {M : mm_T} {y : mm_T} (h : ff_M_saveSnapshot t a1 M = some y) : sp_S mi_M_saveSnapshot 2 43 G [.ref t, .int a1] M (sw_v y).1 (sw_v y).2 := sp_of mo_M_saveSnapshot mw_M_saveSnapshot (Or.inl (by decide +kernel)) rfl rfl (Or.inl rfl) (ip_M_saveSnapshot G t a1 M y h)

set_option maxRecDepth 100000 in
set_option maxHeartbeats 4000000 in
theorem ip_M_restoreSnapshot (G : gl_T) (t : Nat) (a1 : Int32) (M : mm_T) : im_I mi_M_restoreSnapshot 2 43 G M sw_v (ff_M_restoreSnapshot t a1 M) 0 [some (.ref t), some (.int a1)] [] M := by
  unfold ff_M_restoreSnapshot
  refine im_gd (fun hg => ?_)
  refine im_aload_n 0 0 rfl rfl ?_
  refine im_iconst 1 1 rfl rfl ?_
  refine im_putI 2 2 rfl fd_M_55 (Or.inl (by decide +kernel)) (by decide +kernel) (fun M1 => ?_)
  refine im_iload_n 3 5 rfl rfl ?_
  refine im_jp (fun j14 => im_I mi_M_restoreSnapshot 2 43 G M sw_v (j14) 14 [some (.ref t), none] [] M1) ?_ (fun j14 hj14 => ?_)
  · show im_I mi_M_restoreSnapshot 2 43 G M sw_v (_) 14 [some (.ref t), none] [] M1
    refine im_aload_n 8 14 rfl rfl ?_
    refine im_iconst 9 15 rfl rfl ?_
    refine im_putI 10 16 rfl fd_M_55 (Or.inl (by decide +kernel)) (by decide +kernel) (fun M2 => ?_)
    exact im_end rfl (wp_return 11 19 rfl rfl)
  refine im_if_lt 4 6 14 rfl (by decide) ?_ ?_
  · exact im_less _ (by simp [lv_le]) (hj14)
  · refine im_iload_n 5 9 rfl rfl ?_
    refine im_iconst 6 10 rfl rfl ?_
    refine im_ic_lt 7 11 20 rfl (by decide) ?_ ?_
    · refine im_aload_n 12 20 rfl rfl ?_
      refine im_getR 13 21 rfl fd_M_13 (by decide +kernel) (fun x1 => ?_)
      refine im_iload_n 14 24 rfl rfl ?_
      refine im_baload 15 25 rfl (fun x2 => ?_)
      refine im_if_ne 16 26 35 rfl (by decide) ?_ ?_
      · refine im_aload_n 21 35 rfl rfl ?_
        refine im_bipush 22 36 rfl rfl ?_
        refine im_iload_n 23 38 rfl rfl ?_
        refine im_iadd 24 39 rfl ?_
        refine im_iconst 25 40 rfl rfl ?_
        refine im_cWv (S := []) (fun _ hv => cpV (fr' := 1) (lo' := 20) (i := 26) (As := [.int ((7 : Int32) + a1), .int (0 : Int32)]) (S := []) (a := t) (c := 11) rfl lk_M_323 mw_M_copies mv_M_copies rfl ⟨by decide, rfl⟩ rfl rfl rfl (gd_some hv).1 (sp_M_copies G hv)) (fun M3 => ?_)
        refine im_aload_n 27 44 rfl rfl ?_
        refine im_iconst 28 45 rfl rfl ?_
        refine im_putI 29 46 rfl fd_M_326 (Or.inl (by decide +kernel)) (by decide +kernel) (fun M4 => ?_)
        exact im_end rfl (wp_return 30 49 rfl rfl)
      · refine im_aload_n 17 29 rfl rfl ?_
        refine im_iconst 18 30 rfl rfl ?_
        refine im_putI 19 31 rfl fd_M_55 (Or.inl (by decide +kernel)) (by decide +kernel) (fun M5 => ?_)
        exact im_end rfl (wp_return 20 34 rfl rfl)
    · exact im_less _ (by simp [lv_le]) (hj14)

theorem sp_M_restoreSnapshot (G : gl_T) {t : Nat} {a1 : Int32} {M : mm_T} {y : mm_T} (h : ff_M_restoreSnapshot t a1 M = some y) : sp_S mi_M_restoreSnapshot 2 43 G [.ref t, .int a1] M (sw_v y).1 (sw_v y).2 := sp_of mo_M_restoreSnapshot mw_M_restoreSnapshot (Or.inl (by decide +kernel)) rfl rfl (Or.inl rfl) (ip_M_restoreSnapshot G t a1 M y h)

set_option maxRecDepth 100000 in
set_option maxHeartbeats 4000000 in
theorem ip_Z_appendText (G : gl_T) (a1 : Nat) (a2 : Int32) (a3 : Nat) (M : mm_T) : im_I mi_Z_appendText 7 112 G M sw_i (ff_Z_appendText a1 a2 a3 M) 0 [some (.ref a1), some (.int a2), some (.ref a3), none] [] M := by
  unfold ff_Z_appendText
  refine im_aload_n 0 0 rfl rfl ?_
  refine im_iconst 1 1 rfl rfl ?_
  refine im_aload_n 2 2 rfl rfl ?_
  refine im_iload_n 3 3 rfl rfl ?_
  refine im_cs (S := [.int (0 : Int32), .ref a3]) (so := (fun v => some (.int v))) (fun _ _ hv => cpV (fr' := 6) (lo' := 90) (i := 4) (As := [.int a2]) (S := [.int (0 : Int32), .ref a3]) (a := a1) (c := 10) rfl lk_Z_7 mw_D_appendText mv_D_appendText rfl ⟨by decide, rfl⟩ rfl rfl rfl (gd_some hv).1 (sp_D_appendText G hv)) (fun x1 M1 => ?_) (fun E M1 hv z hz => ?_)
  · refine im_i2l 5 7 rfl ?_
    refine im_lastore 6 8 rfl (fun M2 => ?_)
    refine im_goto 7 9 15 rfl (by decide) ?_
    refine im_iconst 11 15 rfl rfl ?_
    exact im_end rfl (wp_ireturn 12 16 rfl rfl)
  · replace hz : (if E = "java/lang/IllegalStateException" then (some ((1 : Int32), M1)) else (none)) = some z := hz
    by_cases h1 : E = "java/lang/IllegalStateException"
    · rw [if_pos h1] at hz
      subst h1
      refine xpV (fr' := 6) (lo' := 90) (i := 4) (As := [.int a2]) (S := [.int (0 : Int32), .ref a3]) (a := a1) (c := 10) rfl lm_Z_7 mw_D_appendText mv_D_appendText rfl ⟨by decide, rfl⟩ rfl rfl rfl (gd_some hv).1 (sp_D_appendText G hv) (tw_catch (n := 0) (i := 8) (len := 1) (j := 3) rfl (fun z hz => by rw [show (tableOf (mi_hh mi_Z_appendText)).take 0 = [] from rfl] at hz; exact nomatch hz) (by decide) (by decide) (tb_m 1145 (by decide +kernel) rfl) (List.mem_of_getElem? (i := 0) (by decide +kernel)) rfl (Or.inl ⟨⟨3, rfl, rfl⟩, rfl⟩) rfl ?_)
      refine (?_ : im_I mi_Z_appendText 7 112 G M sw_i (some ((1 : Int32), M1)) 13 [some (.ref a1), some (.int a2), some (.ref a3), none] [] M1) z hz
      refine im_iconst 9 13 rfl rfl ?_
      exact im_end rfl (wp_ireturn 10 14 rfl rfl)
    · rw [if_neg h1] at hz
      cases hz

theorem sp_Z_appendText (G : gl_T) {a1 : Nat} {a2 : Int32} {a3 : Nat} {M : mm_T} {y : Int32 × mm_T} (h : ff_Z_appendText a1 a2 a3 M = some y) : sp_S mi_Z_appendText 7 112 G [.ref a1, .int a2, .ref a3] M (sw_i y).1 (sw_i y).2 := sp_of mo_Z_appendText mw_Z_appendText (Or.inl (by decide +kernel)) rfl rfl (Or.inr ⟨_, rfl⟩) (ip_Z_appendText G a1 a2 a3 M y h)

set_option maxRecDepth 100000 in
set_option maxHeartbeats 4000000 in
theorem ip_Z_truncateText (G : gl_T) (a1 : Nat) (a2 : Int32) (a3 : Nat) (M : mm_T) : im_I mi_Z_truncateText 7 111 G M sw_i (ff_Z_truncateText a1 a2 a3 M) 0 [some (.ref a1), some (.int a2), some (.ref a3), none] [] M := by
  unfold ff_Z_truncateText
  refine im_aload_n 0 0 rfl rfl ?_
  refine im_iconst 1 1 rfl rfl ?_
  refine im_aload_n 2 2 rfl rfl ?_
  refine im_iload_n 3 3 rfl rfl ?_
  refine im_cs (S := [.int (0 : Int32), .ref a3]) (so := (fun v => some (.int v))) (fun _ _ hv => cpV (fr' := 6) (lo' := 90) (i := 4) (As := [.int a2]) (S := [.int (0 : Int32), .ref a3]) (a := a1) (c := 10) rfl lk_Z_15 mw_D_truncateText mv_D_truncateText rfl ⟨by decide, rfl⟩ rfl rfl rfl (gd_some hv).1 (sp_D_truncateText G hv)) (fun x1 M1 => ?_) (fun E M1 hv z hz => ?_)
  · refine im_i2l 5 7 rfl ?_
    refine im_lastore 6 8 rfl (fun M2 => ?_)
    refine im_goto 7 9 15 rfl (by decide) ?_
    refine im_iconst 11 15 rfl rfl ?_
    exact im_end rfl (wp_ireturn 12 16 rfl rfl)
  · replace hz : (if E = "java/lang/IllegalArgumentException" then (some ((1 : Int32), M1)) else (none)) = some z := hz
    by_cases h1 : E = "java/lang/IllegalArgumentException"
    · rw [if_pos h1] at hz
      subst h1
      refine xpV (fr' := 6) (lo' := 90) (i := 4) (As := [.int a2]) (S := [.int (0 : Int32), .ref a3]) (a := a1) (c := 10) rfl lm_Z_15 mw_D_truncateText mv_D_truncateText rfl ⟨by decide, rfl⟩ rfl rfl rfl (gd_some hv).1 (sp_D_truncateText G hv) (tw_catch (n := 0) (i := 8) (len := 1) (j := 3) rfl (fun z hz => by rw [show (tableOf (mi_hh mi_Z_truncateText)).take 0 = [] from rfl] at hz; exact nomatch hz) (by decide) (by decide) (tb_m 1226 (by decide +kernel) rfl) (List.mem_of_getElem? (i := 1) (by decide +kernel)) rfl (Or.inl ⟨⟨3, rfl, rfl⟩, rfl⟩) rfl ?_)
      refine (?_ : im_I mi_Z_truncateText 7 111 G M sw_i (some ((1 : Int32), M1)) 13 [some (.ref a1), some (.int a2), some (.ref a3), none] [] M1) z hz
      refine im_iconst 9 13 rfl rfl ?_
      exact im_end rfl (wp_ireturn 10 14 rfl rfl)
    · rw [if_neg h1] at hz
      cases hz

theorem sp_Z_truncateText (G : gl_T) {a1 : Nat} {a2 : Int32} {a3 : Nat} {M : mm_T} {y : Int32 × mm_T} (h : ff_Z_truncateText a1 a2 a3 M = some y) : sp_S mi_Z_truncateText 7 111 G [.ref a1, .int a2, .ref a3] M (sw_i y).1 (sw_i y).2 := sp_of mo_Z_truncateText mw_Z_truncateText (Or.inl (by decide +kernel)) rfl rfl (Or.inr ⟨_, rfl⟩) (ip_Z_truncateText G a1 a2 a3 M y h)

set_option maxRecDepth 100000 in
set_option maxHeartbeats 4000000 in
theorem ip_Z_instructionsIn (G : gl_T) (a1 : Nat) (a2 : Int32) (a3 : Nat) (M : mm_T) : im_I mi_Z_instructionsIn 8 132 G M sw_i (ff_Z_instructionsIn a1 a2 a3 M) 0 [some (.ref a1), some (.int a2), some (.ref a3), none] [] M := by
  unfold ff_Z_instructionsIn
  refine im_aload_n 0 0 rfl rfl ?_
  refine im_iconst 1 1 rfl rfl ?_
  refine im_aload_n 2 2 rfl rfl ?_
  refine im_iload_n 3 3 rfl rfl ?_
  refine im_cs (S := [.int (0 : Int32), .ref a3]) (so := (fun v => some (.int v))) (fun _ _ hv => cpV (fr' := 7) (lo' := 111) (i := 4) (As := [.int a2]) (S := [.int (0 : Int32), .ref a3]) (a := a1) (c := 10) rfl lk_Z_20 mw_D_instructionsIn mv_D_instructionsIn rfl ⟨by decide, rfl⟩ rfl rfl rfl (gd_some hv).1 (sp_D_instructionsIn G hv)) (fun x1 M1 => ?_) (fun E M1 hv z hz => ?_)
  · refine im_i2l 5 7 rfl ?_
    refine im_lastore 6 8 rfl (fun M2 => ?_)
    refine im_goto 7 9 15 rfl (by decide) ?_
    refine im_iconst 11 15 rfl rfl ?_
    exact im_end rfl (wp_ireturn 12 16 rfl rfl)
  · replace hz : (if E = "java/lang/IndexOutOfBoundsException" then (some ((1 : Int32), M1)) else (none)) = some z := hz
    by_cases h1 : E = "java/lang/IndexOutOfBoundsException"
    · rw [if_pos h1] at hz
      subst h1
      refine xpV (fr' := 7) (lo' := 111) (i := 4) (As := [.int a2]) (S := [.int (0 : Int32), .ref a3]) (a := a1) (c := 10) rfl lm_Z_20 mw_D_instructionsIn mv_D_instructionsIn rfl ⟨by decide, rfl⟩ rfl rfl rfl (gd_some hv).1 (sp_D_instructionsIn G hv) (tw_catch (n := 0) (i := 8) (len := 1) (j := 3) rfl (fun z hz => by rw [show (tableOf (mi_hh mi_Z_instructionsIn)).take 0 = [] from rfl] at hz; exact nomatch hz) (by decide) (by decide) (tb_m 1254 (by decide +kernel) rfl) (List.mem_of_getElem? (i := 2) (by decide +kernel)) rfl (Or.inl ⟨⟨3, rfl, rfl⟩, rfl⟩) rfl ?_)
      refine (?_ : im_I mi_Z_instructionsIn 8 132 G M sw_i (some ((1 : Int32), M1)) 13 [some (.ref a1), some (.int a2), some (.ref a3), none] [] M1) z hz
      refine im_iconst 9 13 rfl rfl ?_
      exact im_end rfl (wp_ireturn 10 14 rfl rfl)
    · rw [if_neg h1] at hz
      cases hz

theorem sp_Z_instructionsIn (G : gl_T) {a1 : Nat} {a2 : Int32} {a3 : Nat} {M : mm_T} {y : Int32 × mm_T} (h : ff_Z_instructionsIn a1 a2 a3 M = some y) : sp_S mi_Z_instructionsIn 8 132 G [.ref a1, .int a2, .ref a3] M (sw_i y).1 (sw_i y).2 := sp_of mo_Z_instructionsIn mw_Z_instructionsIn (Or.inl (by decide +kernel)) rfl rfl (Or.inr ⟨_, rfl⟩) (ip_Z_instructionsIn G a1 a2 a3 M y h)

set_option maxRecDepth 100000 in
set_option maxHeartbeats 4000000 in
theorem ip_Z_blockOf (G : gl_T) (a1 : Nat) (a2 : Int32) (a3 : Nat) (M : mm_T) : im_I mi_Z_blockOf 8 132 G M sw_i (ff_Z_blockOf a1 a2 a3 M) 0 [some (.ref a1), some (.int a2), some (.ref a3), none] [] M := by
  unfold ff_Z_blockOf
  refine im_aload_n 0 0 rfl rfl ?_
  refine im_iconst 1 1 rfl rfl ?_
  refine im_aload_n 2 2 rfl rfl ?_
  refine im_iload_n 3 3 rfl rfl ?_
  refine im_cs (S := [.int (0 : Int32), .ref a3]) (so := (fun v => some (.int v))) (fun _ _ hv => cpV (fr' := 7) (lo' := 111) (i := 4) (As := [.int a2]) (S := [.int (0 : Int32), .ref a3]) (a := a1) (c := 10) rfl lk_Z_25 mw_D_blockOf mv_D_blockOf rfl ⟨by decide, rfl⟩ rfl rfl rfl (gd_some hv).1 (sp_D_blockOf G hv)) (fun x1 M1 => ?_) (fun E M1 hv z hz => ?_)
  · refine im_i2l 5 7 rfl ?_
    refine im_lastore 6 8 rfl (fun M2 => ?_)
    refine im_goto 7 9 15 rfl (by decide) ?_
    refine im_iconst 11 15 rfl rfl ?_
    exact im_end rfl (wp_ireturn 12 16 rfl rfl)
  · replace hz : (if E = "java/lang/IndexOutOfBoundsException" then (some ((1 : Int32), M1)) else (none)) = some z := hz
    by_cases h1 : E = "java/lang/IndexOutOfBoundsException"
    · rw [if_pos h1] at hz
      subst h1
      refine xpV (fr' := 7) (lo' := 111) (i := 4) (As := [.int a2]) (S := [.int (0 : Int32), .ref a3]) (a := a1) (c := 10) rfl lm_Z_25 mw_D_blockOf mv_D_blockOf rfl ⟨by decide, rfl⟩ rfl rfl rfl (gd_some hv).1 (sp_D_blockOf G hv) (tw_catch (n := 0) (i := 8) (len := 1) (j := 3) rfl (fun z hz => by rw [show (tableOf (mi_hh mi_Z_blockOf)).take 0 = [] from rfl] at hz; exact nomatch hz) (by decide) (by decide) (tb_m 1254 (by decide +kernel) rfl) (List.mem_of_getElem? (i := 2) (by decide +kernel)) rfl (Or.inl ⟨⟨3, rfl, rfl⟩, rfl⟩) rfl ?_)
      refine (?_ : im_I mi_Z_blockOf 8 132 G M sw_i (some ((1 : Int32), M1)) 13 [some (.ref a1), some (.int a2), some (.ref a3), none] [] M1) z hz
      refine im_iconst 9 13 rfl rfl ?_
      exact im_end rfl (wp_ireturn 10 14 rfl rfl)
    · rw [if_neg h1] at hz
      cases hz

theorem sp_Z_blockOf (G : gl_T) {a1 : Nat} {a2 : Int32} {a3 : Nat} {M : mm_T} {y : Int32 × mm_T} (h : ff_Z_blockOf a1 a2 a3 M = some y) : sp_S mi_Z_blockOf 8 132 G [.ref a1, .int a2, .ref a3] M (sw_i y).1 (sw_i y).2 := sp_of mo_Z_blockOf mw_Z_blockOf (Or.inl (by decide +kernel)) rfl rfl (Or.inr ⟨_, rfl⟩) (ip_Z_blockOf G a1 a2 a3 M y h)

set_option maxRecDepth 100000 in
set_option maxHeartbeats 4000000 in
theorem ip_Z_kindOf (G : gl_T) (a1 : Nat) (a2 : Int32) (a3 : Nat) (M : mm_T) : im_I mi_Z_kindOf 8 132 G M sw_i (ff_Z_kindOf a1 a2 a3 M) 0 [some (.ref a1), some (.int a2), some (.ref a3), none] [] M := by
  unfold ff_Z_kindOf
  refine im_aload_n 0 0 rfl rfl ?_
  refine im_iconst 1 1 rfl rfl ?_
  refine im_aload_n 2 2 rfl rfl ?_
  refine im_iload_n 3 3 rfl rfl ?_
  refine im_cs (S := [.int (0 : Int32), .ref a3]) (so := (fun v => some (.int v))) (fun _ _ hv => cpV (fr' := 7) (lo' := 111) (i := 4) (As := [.int a2]) (S := [.int (0 : Int32), .ref a3]) (a := a1) (c := 10) rfl lk_Z_28 mw_D_kindOf mv_D_kindOf rfl ⟨by decide, rfl⟩ rfl rfl rfl (gd_some hv).1 (sp_D_kindOf G hv)) (fun x1 M1 => ?_) (fun E M1 hv z hz => ?_)
  · refine im_i2l 5 7 rfl ?_
    refine im_lastore 6 8 rfl (fun M2 => ?_)
    refine im_goto 7 9 15 rfl (by decide) ?_
    refine im_iconst 11 15 rfl rfl ?_
    exact im_end rfl (wp_ireturn 12 16 rfl rfl)
  · replace hz : (if E = "java/lang/IndexOutOfBoundsException" then (some ((1 : Int32), M1)) else (none)) = some z := hz
    by_cases h1 : E = "java/lang/IndexOutOfBoundsException"
    · rw [if_pos h1] at hz
      subst h1
      refine xpV (fr' := 7) (lo' := 111) (i := 4) (As := [.int a2]) (S := [.int (0 : Int32), .ref a3]) (a := a1) (c := 10) rfl lm_Z_28 mw_D_kindOf mv_D_kindOf rfl ⟨by decide, rfl⟩ rfl rfl rfl (gd_some hv).1 (sp_D_kindOf G hv) (tw_catch (n := 0) (i := 8) (len := 1) (j := 3) rfl (fun z hz => by rw [show (tableOf (mi_hh mi_Z_kindOf)).take 0 = [] from rfl] at hz; exact nomatch hz) (by decide) (by decide) (tb_m 1254 (by decide +kernel) rfl) (List.mem_of_getElem? (i := 2) (by decide +kernel)) rfl (Or.inl ⟨⟨3, rfl, rfl⟩, rfl⟩) rfl ?_)
      refine (?_ : im_I mi_Z_kindOf 8 132 G M sw_i (some ((1 : Int32), M1)) 13 [some (.ref a1), some (.int a2), some (.ref a3), none] [] M1) z hz
      refine im_iconst 9 13 rfl rfl ?_
      exact im_end rfl (wp_ireturn 10 14 rfl rfl)
    · rw [if_neg h1] at hz
      cases hz

theorem sp_Z_kindOf (G : gl_T) {a1 : Nat} {a2 : Int32} {a3 : Nat} {M : mm_T} {y : Int32 × mm_T} (h : ff_Z_kindOf a1 a2 a3 M = some y) : sp_S mi_Z_kindOf 8 132 G [.ref a1, .int a2, .ref a3] M (sw_i y).1 (sw_i y).2 := sp_of mo_Z_kindOf mw_Z_kindOf (Or.inl (by decide +kernel)) rfl rfl (Or.inr ⟨_, rfl⟩) (ip_Z_kindOf G a1 a2 a3 M y h)

set_option maxRecDepth 100000 in
set_option maxHeartbeats 4000000 in
theorem ip_Z_predecessors (G : gl_T) (a1 : Nat) (a2 : Int32) (a3 : Nat) (M : mm_T) : im_I mi_Z_predecessors 8 153 G M sw_i (ff_Z_predecessors a1 a2 a3 M) 0 [some (.ref a1), some (.int a2), some (.ref a3), none] [] M := by
  unfold ff_Z_predecessors
  refine im_aload_n 0 0 rfl rfl ?_
  refine im_iconst 1 1 rfl rfl ?_
  refine im_aload_n 2 2 rfl rfl ?_
  refine im_iload_n 3 3 rfl rfl ?_
  refine im_cs (S := [.int (0 : Int32), .ref a3]) (so := (fun v => some (.int v))) (fun _ _ hv => cpV (fr' := 7) (lo' := 132) (i := 4) (As := [.int a2]) (S := [.int (0 : Int32), .ref a3]) (a := a1) (c := 10) rfl lk_Z_37 mw_D_predecessors mv_D_predecessors rfl ⟨by decide, rfl⟩ rfl rfl rfl (gd_some hv).1 (sp_D_predecessors G hv)) (fun x1 M1 => ?_) (fun E M1 hv z hz => ?_)
  · refine im_i2l 5 7 rfl ?_
    refine im_lastore 6 8 rfl (fun M2 => ?_)
    refine im_goto 7 9 15 rfl (by decide) ?_
    refine im_iconst 11 15 rfl rfl ?_
    exact im_end rfl (wp_ireturn 12 16 rfl rfl)
  · replace hz : (if E = "java/lang/IndexOutOfBoundsException" then (some ((1 : Int32), M1)) else (none)) = some z := hz
    by_cases h1 : E = "java/lang/IndexOutOfBoundsException"
    · rw [if_pos h1] at hz
      subst h1
      refine xpV (fr' := 7) (lo' := 132) (i := 4) (As := [.int a2]) (S := [.int (0 : Int32), .ref a3]) (a := a1) (c := 10) rfl lm_Z_37 mw_D_predecessors mv_D_predecessors rfl ⟨by decide, rfl⟩ rfl rfl rfl (gd_some hv).1 (sp_D_predecessors G hv) (tw_catch (n := 0) (i := 8) (len := 1) (j := 3) rfl (fun z hz => by rw [show (tableOf (mi_hh mi_Z_predecessors)).take 0 = [] from rfl] at hz; exact nomatch hz) (by decide) (by decide) (tb_m 1254 (by decide +kernel) rfl) (List.mem_of_getElem? (i := 2) (by decide +kernel)) rfl (Or.inl ⟨⟨3, rfl, rfl⟩, rfl⟩) rfl ?_)
      refine (?_ : im_I mi_Z_predecessors 8 153 G M sw_i (some ((1 : Int32), M1)) 13 [some (.ref a1), some (.int a2), some (.ref a3), none] [] M1) z hz
      refine im_iconst 9 13 rfl rfl ?_
      exact im_end rfl (wp_ireturn 10 14 rfl rfl)
    · rw [if_neg h1] at hz
      cases hz

theorem sp_Z_predecessors (G : gl_T) {a1 : Nat} {a2 : Int32} {a3 : Nat} {M : mm_T} {y : Int32 × mm_T} (h : ff_Z_predecessors a1 a2 a3 M = some y) : sp_S mi_Z_predecessors 8 153 G [.ref a1, .int a2, .ref a3] M (sw_i y).1 (sw_i y).2 := sp_of mo_Z_predecessors mw_Z_predecessors (Or.inl (by decide +kernel)) rfl rfl (Or.inr ⟨_, rfl⟩) (ip_Z_predecessors G a1 a2 a3 M y h)

set_option maxRecDepth 100000 in
set_option maxHeartbeats 4000000 in
theorem ip_Z_isReachable (G : gl_T) (a1 : Nat) (a2 : Int32) (a3 : Nat) (M : mm_T) : im_I mi_Z_isReachable 8 153 G M sw_i (ff_Z_isReachable a1 a2 a3 M) 0 [some (.ref a1), some (.int a2), some (.ref a3), none] [] M := by
  unfold ff_Z_isReachable
  refine im_aload_n 0 0 rfl rfl ?_
  refine im_iconst 1 1 rfl rfl ?_
  refine im_aload_n 2 2 rfl rfl ?_
  refine im_iload_n 3 3 rfl rfl ?_
  refine im_cs (S := [.int (0 : Int32), .ref a3]) (so := (fun v => some (.int v))) (fun _ _ hv => cpV (fr' := 7) (lo' := 132) (i := 4) (As := [.int a2]) (S := [.int (0 : Int32), .ref a3]) (a := a1) (c := 10) rfl lk_Z_40 mw_D_isReachable mv_D_isReachable rfl ⟨by decide, rfl⟩ rfl rfl rfl (gd_some hv).1 (sp_D_isReachable G hv)) (fun x1 M1 => ?_) (fun E M1 hv z hz => ?_)
  · refine im_jp (fun j15 => ∀ (x2 : Int64), im_I mi_Z_isReachable 8 153 G M sw_i (j15 x2) 15 [none, none, none, none] [.long x2, .int (0 : Int32), .ref a3] M1) ?_ (fun j15 hj15 => ?_)
    · intro x2
      show im_I mi_Z_isReachable 8 153 G M sw_i (_) 15 [none, none, none, none] [.long x2, .int (0 : Int32), .ref a3] M1
      refine im_lastore 9 15 rfl (fun M2 => ?_)
      refine im_goto 10 16 22 rfl (by decide) ?_
      refine im_iconst 14 22 rfl rfl ?_
      exact im_end rfl (wp_ireturn 15 23 rfl rfl)
    refine im_if_eq 5 7 14 rfl (by decide) ?_ ?_
    · refine im_lconst 8 14 rfl rfl ?_
      exact im_less _ (by simp [lv_le]) (hj15 (0 : Int64))
    · refine im_lconst 6 10 rfl rfl ?_
      refine im_goto 7 11 15 rfl (by decide) ?_
      exact im_less _ (by simp [lv_le]) (hj15 (1 : Int64))
  · replace hz : (if E = "java/lang/IndexOutOfBoundsException" then (some ((1 : Int32), M1)) else (none)) = some z := hz
    by_cases h1 : E = "java/lang/IndexOutOfBoundsException"
    · rw [if_pos h1] at hz
      subst h1
      refine xpV (fr' := 7) (lo' := 132) (i := 4) (As := [.int a2]) (S := [.int (0 : Int32), .ref a3]) (a := a1) (c := 10) rfl lm_Z_40 mw_D_isReachable mv_D_isReachable rfl ⟨by decide, rfl⟩ rfl rfl rfl (gd_some hv).1 (sp_D_isReachable G hv) (tw_catch (n := 0) (i := 11) (len := 1) (j := 3) rfl (fun z hz => by rw [show (tableOf (mi_hh mi_Z_isReachable)).take 0 = [] from rfl] at hz; exact nomatch hz) (by decide) (by decide) (tb_m 1254 (by decide +kernel) rfl) (List.mem_of_getElem? (i := 2) (by decide +kernel)) rfl (Or.inl ⟨⟨3, rfl, rfl⟩, rfl⟩) rfl ?_)
      refine (?_ : im_I mi_Z_isReachable 8 153 G M sw_i (some ((1 : Int32), M1)) 20 [some (.ref a1), some (.int a2), some (.ref a3), none] [] M1) z hz
      refine im_iconst 12 20 rfl rfl ?_
      exact im_end rfl (wp_ireturn 13 21 rfl rfl)
    · rw [if_neg h1] at hz
      cases hz

theorem sp_Z_isReachable (G : gl_T) {a1 : Nat} {a2 : Int32} {a3 : Nat} {M : mm_T} {y : Int32 × mm_T} (h : ff_Z_isReachable a1 a2 a3 M = some y) : sp_S mi_Z_isReachable 8 153 G [.ref a1, .int a2, .ref a3] M (sw_i y).1 (sw_i y).2 := sp_of mo_Z_isReachable mw_Z_isReachable (Or.inl (by decide +kernel)) rfl rfl (Or.inr ⟨_, rfl⟩) (ip_Z_isReachable G a1 a2 a3 M y h)

set_option maxRecDepth 100000 in
set_option maxHeartbeats 4000000 in
theorem ip_Z_distanceTo (G : gl_T) (a1 : Nat) (a2 : Int32) (a3 : Nat) (M : mm_T) : im_I mi_Z_distanceTo 8 153 G M sw_i (ff_Z_distanceTo a1 a2 a3 M) 0 [some (.ref a1), some (.int a2), some (.ref a3), none] [] M := by
  unfold ff_Z_distanceTo
  refine im_aload_n 0 0 rfl rfl ?_
  refine im_iconst 1 1 rfl rfl ?_
  refine im_aload_n 2 2 rfl rfl ?_
  refine im_iload_n 3 3 rfl rfl ?_
  refine im_cs (S := [.int (0 : Int32), .ref a3]) (so := (fun v => some (.int v))) (fun _ _ hv => cpV (fr' := 7) (lo' := 132) (i := 4) (As := [.int a2]) (S := [.int (0 : Int32), .ref a3]) (a := a1) (c := 10) rfl lk_Z_44 mw_D_distanceTo mv_D_distanceTo rfl ⟨by decide, rfl⟩ rfl rfl rfl (gd_some hv).1 (sp_D_distanceTo G hv)) (fun x1 M1 => ?_) (fun E M1 hv z hz => ?_)
  · refine im_i2l 5 7 rfl ?_
    refine im_lastore 6 8 rfl (fun M2 => ?_)
    refine im_goto 7 9 15 rfl (by decide) ?_
    refine im_iconst 11 15 rfl rfl ?_
    exact im_end rfl (wp_ireturn 12 16 rfl rfl)
  · replace hz : (if E = "java/lang/IndexOutOfBoundsException" then (some ((1 : Int32), M1)) else (none)) = some z := hz
    by_cases h1 : E = "java/lang/IndexOutOfBoundsException"
    · rw [if_pos h1] at hz
      subst h1
      refine xpV (fr' := 7) (lo' := 132) (i := 4) (As := [.int a2]) (S := [.int (0 : Int32), .ref a3]) (a := a1) (c := 10) rfl lm_Z_44 mw_D_distanceTo mv_D_distanceTo rfl ⟨by decide, rfl⟩ rfl rfl rfl (gd_some hv).1 (sp_D_distanceTo G hv) (tw_catch (n := 0) (i := 8) (len := 1) (j := 3) rfl (fun z hz => by rw [show (tableOf (mi_hh mi_Z_distanceTo)).take 0 = [] from rfl] at hz; exact nomatch hz) (by decide) (by decide) (tb_m 1254 (by decide +kernel) rfl) (List.mem_of_getElem? (i := 2) (by decide +kernel)) rfl (Or.inl ⟨⟨3, rfl, rfl⟩, rfl⟩) rfl ?_)
      refine (?_ : im_I mi_Z_distanceTo 8 153 G M sw_i (some ((1 : Int32), M1)) 13 [some (.ref a1), some (.int a2), some (.ref a3), none] [] M1) z hz
      refine im_iconst 9 13 rfl rfl ?_
      exact im_end rfl (wp_ireturn 10 14 rfl rfl)
    · rw [if_neg h1] at hz
      cases hz

theorem sp_Z_distanceTo (G : gl_T) {a1 : Nat} {a2 : Int32} {a3 : Nat} {M : mm_T} {y : Int32 × mm_T} (h : ff_Z_distanceTo a1 a2 a3 M = some y) : sp_S mi_Z_distanceTo 8 153 G [.ref a1, .int a2, .ref a3] M (sw_i y).1 (sw_i y).2 := sp_of mo_Z_distanceTo mw_Z_distanceTo (Or.inl (by decide +kernel)) rfl rfl (Or.inr ⟨_, rfl⟩) (ip_Z_distanceTo G a1 a2 a3 M y h)

set_option maxRecDepth 100000 in
set_option maxHeartbeats 4000000 in
theorem ip_Z_reaches (G : gl_T) (a1 : Nat) (a2 : Int32) (a3 : Int32) (a4 : Nat) (M : mm_T) : im_I mi_Z_reaches 8 180 G M sw_i (ff_Z_reaches a1 a2 a3 a4 M) 0 [some (.ref a1), some (.int a2), some (.int a3), some (.ref a4), none] [] M := by
  unfold ff_Z_reaches
  refine im_aload_n 0 0 rfl rfl ?_
  refine im_iconst 1 1 rfl rfl ?_
  refine im_aload_n 2 2 rfl rfl ?_
  refine im_iload_n 3 3 rfl rfl ?_
  refine im_iload_n 4 4 rfl rfl ?_
  refine im_cs (S := [.int (0 : Int32), .ref a4]) (so := (fun v => some (.int v))) (fun _ _ hv => cpV (fr' := 7) (lo' := 158) (i := 5) (As := [.int a2, .int a3]) (S := [.int (0 : Int32), .ref a4]) (a := a1) (c := 10) rfl lk_Z_47 mw_D_reaches mv_D_reaches rfl ⟨by decide, rfl⟩ rfl rfl rfl (gd_some hv).1 (sp_D_reaches G hv)) (fun x1 M1 => ?_) (fun E M1 hv z hz => ?_)
  · refine im_jp (fun j16 => ∀ (x2 : Int64), im_I mi_Z_reaches 8 180 G M sw_i (j16 x2) 16 [none, none, none, none, none] [.long x2, .int (0 : Int32), .ref a4] M1) ?_ (fun j16 hj16 => ?_)
    · intro x2
      show im_I mi_Z_reaches 8 180 G M sw_i (_) 16 [none, none, none, none, none] [.long x2, .int (0 : Int32), .ref a4] M1
      refine im_lastore 10 16 rfl (fun M2 => ?_)
      refine im_goto 11 17 24 rfl (by decide) ?_
      refine im_iconst 15 24 rfl rfl ?_
      exact im_end rfl (wp_ireturn 16 25 rfl rfl)
    refine im_if_eq 6 8 15 rfl (by decide) ?_ ?_
    · refine im_lconst 9 15 rfl rfl ?_
      exact im_less _ (by simp [lv_le]) (hj16 (0 : Int64))
    · refine im_lconst 7 11 rfl rfl ?_
      refine im_goto 8 12 16 rfl (by decide) ?_
      exact im_less _ (by simp [lv_le]) (hj16 (1 : Int64))
  · replace hz : (if E = "java/lang/IndexOutOfBoundsException" then (some ((1 : Int32), M1)) else (none)) = some z := hz
    by_cases h1 : E = "java/lang/IndexOutOfBoundsException"
    · rw [if_pos h1] at hz
      subst h1
      refine xpV (fr' := 7) (lo' := 158) (i := 5) (As := [.int a2, .int a3]) (S := [.int (0 : Int32), .ref a4]) (a := a1) (c := 10) rfl lm_Z_47 mw_D_reaches mv_D_reaches rfl ⟨by decide, rfl⟩ rfl rfl rfl (gd_some hv).1 (sp_D_reaches G hv) (tw_catch (n := 0) (i := 12) (len := 2) (j := 4) rfl (fun z hz => by rw [show (tableOf (mi_hh mi_Z_reaches)).take 0 = [] from rfl] at hz; exact nomatch hz) (by decide) (by decide) (tb_m 1254 (by decide +kernel) rfl) (List.mem_of_getElem? (i := 2) (by decide +kernel)) rfl (Or.inr ⟨rfl, rfl⟩) rfl ?_)
      refine (?_ : im_I mi_Z_reaches 8 180 G M sw_i (some ((1 : Int32), M1)) 22 [some (.ref a1), some (.int a2), some (.int a3), some (.ref a4), none] [] M1) z hz
      refine im_iconst 13 22 rfl rfl ?_
      exact im_end rfl (wp_ireturn 14 23 rfl rfl)
    · rw [if_neg h1] at hz
      cases hz

theorem sp_Z_reaches (G : gl_T) {a1 : Nat} {a2 : Int32} {a3 : Int32} {a4 : Nat} {M : mm_T} {y : Int32 × mm_T} (h : ff_Z_reaches a1 a2 a3 a4 M = some y) : sp_S mi_Z_reaches 8 180 G [.ref a1, .int a2, .int a3, .ref a4] M (sw_i y).1 (sw_i y).2 := sp_of mo_Z_reaches mw_Z_reaches (Or.inl (by decide +kernel)) rfl rfl (Or.inr ⟨_, rfl⟩) (ip_Z_reaches G a1 a2 a3 a4 M y h)

set_option maxRecDepth 100000 in
set_option maxHeartbeats 4000000 in
theorem ip_Z_reachingDefinitions (G : gl_T) (a1 : Nat) (a2 : Int32) (a3 : Int32) (a4 : Nat) (M : mm_T) : im_I mi_Z_reachingDefinitions 8 180 G M sw_i (ff_Z_reachingDefinitions a1 a2 a3 a4 M) 0 [some (.ref a1), some (.int a2), some (.int a3), some (.ref a4), none] [] M := by
  unfold ff_Z_reachingDefinitions
  refine im_aload_n 0 0 rfl rfl ?_
  refine im_iconst 1 1 rfl rfl ?_
  refine im_aload_n 2 2 rfl rfl ?_
  refine im_iload_n 3 3 rfl rfl ?_
  refine im_iload_n 4 4 rfl rfl ?_
  refine im_cs (S := [.int (0 : Int32), .ref a4]) (so := (fun v => some (.int v))) (fun _ _ hv => cpV (fr' := 7) (lo' := 158) (i := 5) (As := [.int a2, .int a3]) (S := [.int (0 : Int32), .ref a4]) (a := a1) (c := 10) rfl lk_Z_51 mw_D_reachingDefinitions mv_D_reachingDefinitions rfl ⟨by decide, rfl⟩ rfl rfl rfl (gd_some hv).1 (sp_D_reachingDefinitions G hv)) (fun x1 M1 => ?_) (fun E M1 hv z hz => ?_)
  · refine im_i2l 6 8 rfl ?_
    refine im_lastore 7 9 rfl (fun M2 => ?_)
    refine im_goto 8 10 21 rfl (by decide) ?_
    refine im_iconst 15 21 rfl rfl ?_
    exact im_end rfl (wp_ireturn 16 22 rfl rfl)
  · replace hz : (if E = "java/lang/IndexOutOfBoundsException" then (some ((1 : Int32), M1)) else (if E = "java/lang/IllegalArgumentException" then (some ((2 : Int32), M1)) else (none))) = some z := hz
    by_cases h2 : E = "java/lang/IndexOutOfBoundsException"
    · rw [if_pos h2] at hz
      subst h2
      refine xpV (fr' := 7) (lo' := 158) (i := 5) (As := [.int a2, .int a3]) (S := [.int (0 : Int32), .ref a4]) (a := a1) (c := 10) rfl lm_Z_51 mw_D_reachingDefinitions mv_D_reachingDefinitions rfl ⟨by decide, rfl⟩ rfl rfl rfl (gd_some hv).1 (sp_D_reachingDefinitions G hv) (tw_catch (n := 0) (i := 9) (len := 2) (j := 4) rfl (fun z hz => by rw [show (tableOf (mi_hh mi_Z_reachingDefinitions)).take 0 = [] from rfl] at hz; exact nomatch hz) (by decide) (by decide) (tb_m 1254 (by decide +kernel) rfl) (List.mem_of_getElem? (i := 2) (by decide +kernel)) rfl (Or.inr ⟨rfl, rfl⟩) rfl ?_)
      refine (?_ : im_I mi_Z_reachingDefinitions 8 180 G M sw_i (some ((1 : Int32), M1)) 15 [some (.ref a1), some (.int a2), some (.int a3), some (.ref a4), none] [] M1) z hz
      refine im_iconst 10 15 rfl rfl ?_
      exact im_end rfl (wp_ireturn 11 16 rfl rfl)
    · rw [if_neg h2] at hz
      by_cases h1 : E = "java/lang/IllegalArgumentException"
      · rw [if_pos h1] at hz
        subst h1
        refine xpV (fr' := 7) (lo' := 158) (i := 5) (As := [.int a2, .int a3]) (S := [.int (0 : Int32), .ref a4]) (a := a1) (c := 10) rfl lm_Z_51 mw_D_reachingDefinitions mv_D_reachingDefinitions rfl ⟨by decide, rfl⟩ rfl rfl rfl (gd_some hv).1 (sp_D_reachingDefinitions G hv) (tw_catch (n := 1) (i := 12) (len := 2) (j := 4) rfl (tk_Z_reachingDefinitions_1) (by decide) (by decide) (tb_m 1226 (by decide +kernel) rfl) (List.mem_of_getElem? (i := 1) (by decide +kernel)) rfl (Or.inr ⟨rfl, rfl⟩) rfl ?_)
        refine (?_ : im_I mi_Z_reachingDefinitions 8 180 G M sw_i (some ((2 : Int32), M1)) 19 [some (.ref a1), some (.int a2), some (.int a3), some (.ref a4), none] [] M1) z hz
        refine im_iconst 13 19 rfl rfl ?_
        exact im_end rfl (wp_ireturn 14 20 rfl rfl)
      · rw [if_neg h1] at hz
        cases hz

theorem sp_Z_reachingDefinitions (G : gl_T) {a1 : Nat} {a2 : Int32} {a3 : Int32} {a4 : Nat} {M : mm_T} {y : Int32 × mm_T} (h : ff_Z_reachingDefinitions a1 a2 a3 a4 M = some y) : sp_S mi_Z_reachingDefinitions 8 180 G [.ref a1, .int a2, .int a3, .ref a4] M (sw_i y).1 (sw_i y).2 := sp_of mo_Z_reachingDefinitions mw_Z_reachingDefinitions (Or.inl (by decide +kernel)) rfl rfl (Or.inr ⟨_, rfl⟩) (ip_Z_reachingDefinitions G a1 a2 a3 a4 M y h)

set_option maxRecDepth 100000 in
set_option maxHeartbeats 4000000 in
theorem ip_Z_isInitialReaching (G : gl_T) (a1 : Nat) (a2 : Int32) (a3 : Int32) (a4 : Nat) (M : mm_T) : im_I mi_Z_isInitialReaching 8 180 G M sw_i (ff_Z_isInitialReaching a1 a2 a3 a4 M) 0 [some (.ref a1), some (.int a2), some (.int a3), some (.ref a4), none] [] M := by
  unfold ff_Z_isInitialReaching
  refine im_aload_n 0 0 rfl rfl ?_
  refine im_iconst 1 1 rfl rfl ?_
  refine im_aload_n 2 2 rfl rfl ?_
  refine im_iload_n 3 3 rfl rfl ?_
  refine im_iload_n 4 4 rfl rfl ?_
  refine im_cs (S := [.int (0 : Int32), .ref a4]) (so := (fun v => some (.int v))) (fun _ _ hv => cpV (fr' := 7) (lo' := 158) (i := 5) (As := [.int a2, .int a3]) (S := [.int (0 : Int32), .ref a4]) (a := a1) (c := 10) rfl lk_Z_54 mw_D_isInitialReaching mv_D_isInitialReaching rfl ⟨by decide, rfl⟩ rfl rfl rfl (gd_some hv).1 (sp_D_isInitialReaching G hv)) (fun x1 M1 => ?_) (fun E M1 hv z hz => ?_)
  · refine im_jp (fun j16 => ∀ (x2 : Int64), im_I mi_Z_isInitialReaching 8 180 G M sw_i (j16 x2) 16 [none, none, none, none, none] [.long x2, .int (0 : Int32), .ref a4] M1) ?_ (fun j16 hj16 => ?_)
    · intro x2
      show im_I mi_Z_isInitialReaching 8 180 G M sw_i (_) 16 [none, none, none, none, none] [.long x2, .int (0 : Int32), .ref a4] M1
      refine im_lastore 10 16 rfl (fun M2 => ?_)
      refine im_goto 11 17 28 rfl (by decide) ?_
      refine im_iconst 18 28 rfl rfl ?_
      exact im_end rfl (wp_ireturn 19 29 rfl rfl)
    refine im_if_eq 6 8 15 rfl (by decide) ?_ ?_
    · refine im_lconst 9 15 rfl rfl ?_
      exact im_less _ (by simp [lv_le]) (hj16 (0 : Int64))
    · refine im_lconst 7 11 rfl rfl ?_
      refine im_goto 8 12 16 rfl (by decide) ?_
      exact im_less _ (by simp [lv_le]) (hj16 (1 : Int64))
  · replace hz : (if E = "java/lang/IndexOutOfBoundsException" then (some ((1 : Int32), M1)) else (if E = "java/lang/IllegalArgumentException" then (some ((2 : Int32), M1)) else (none))) = some z := hz
    by_cases h2 : E = "java/lang/IndexOutOfBoundsException"
    · rw [if_pos h2] at hz
      subst h2
      refine xpV (fr' := 7) (lo' := 158) (i := 5) (As := [.int a2, .int a3]) (S := [.int (0 : Int32), .ref a4]) (a := a1) (c := 10) rfl lm_Z_54 mw_D_isInitialReaching mv_D_isInitialReaching rfl ⟨by decide, rfl⟩ rfl rfl rfl (gd_some hv).1 (sp_D_isInitialReaching G hv) (tw_catch (n := 0) (i := 12) (len := 2) (j := 4) rfl (fun z hz => by rw [show (tableOf (mi_hh mi_Z_isInitialReaching)).take 0 = [] from rfl] at hz; exact nomatch hz) (by decide) (by decide) (tb_m 1254 (by decide +kernel) rfl) (List.mem_of_getElem? (i := 2) (by decide +kernel)) rfl (Or.inr ⟨rfl, rfl⟩) rfl ?_)
      refine (?_ : im_I mi_Z_isInitialReaching 8 180 G M sw_i (some ((1 : Int32), M1)) 22 [some (.ref a1), some (.int a2), some (.int a3), some (.ref a4), none] [] M1) z hz
      refine im_iconst 13 22 rfl rfl ?_
      exact im_end rfl (wp_ireturn 14 23 rfl rfl)
    · rw [if_neg h2] at hz
      by_cases h1 : E = "java/lang/IllegalArgumentException"
      · rw [if_pos h1] at hz
        subst h1
        refine xpV (fr' := 7) (lo' := 158) (i := 5) (As := [.int a2, .int a3]) (S := [.int (0 : Int32), .ref a4]) (a := a1) (c := 10) rfl lm_Z_54 mw_D_isInitialReaching mv_D_isInitialReaching rfl ⟨by decide, rfl⟩ rfl rfl rfl (gd_some hv).1 (sp_D_isInitialReaching G hv) (tw_catch (n := 1) (i := 15) (len := 2) (j := 4) rfl (tk_Z_isInitialReaching_1) (by decide) (by decide) (tb_m 1226 (by decide +kernel) rfl) (List.mem_of_getElem? (i := 1) (by decide +kernel)) rfl (Or.inr ⟨rfl, rfl⟩) rfl ?_)
        refine (?_ : im_I mi_Z_isInitialReaching 8 180 G M sw_i (some ((2 : Int32), M1)) 26 [some (.ref a1), some (.int a2), some (.int a3), some (.ref a4), none] [] M1) z hz
        refine im_iconst 16 26 rfl rfl ?_
        exact im_end rfl (wp_ireturn 17 27 rfl rfl)
      · rw [if_neg h1] at hz
        cases hz

theorem sp_Z_isInitialReaching (G : gl_T) {a1 : Nat} {a2 : Int32} {a3 : Int32} {a4 : Nat} {M : mm_T} {y : Int32 × mm_T} (h : ff_Z_isInitialReaching a1 a2 a3 a4 M = some y) : sp_S mi_Z_isInitialReaching 8 180 G [.ref a1, .int a2, .int a3, .ref a4] M (sw_i y).1 (sw_i y).2 := sp_of mo_Z_isInitialReaching mw_Z_isInitialReaching (Or.inl (by decide +kernel)) rfl rfl (Or.inr ⟨_, rfl⟩) (ip_Z_isInitialReaching G a1 a2 a3 a4 M y h)

set_option maxRecDepth 100000 in
set_option maxHeartbeats 4000000 in
theorem ip_Z_usesOf (G : gl_T) (a1 : Nat) (a2 : Int32) (a3 : Nat) (M : mm_T) : im_I mi_Z_usesOf 8 179 G M sw_i (ff_Z_usesOf a1 a2 a3 M) 0 [some (.ref a1), some (.int a2), some (.ref a3), none] [] M := by
  unfold ff_Z_usesOf
  refine im_aload_n 0 0 rfl rfl ?_
  refine im_iconst 1 1 rfl rfl ?_
  refine im_aload_n 2 2 rfl rfl ?_
  refine im_iload_n 3 3 rfl rfl ?_
  refine im_cs (S := [.int (0 : Int32), .ref a3]) (so := (fun v => some (.int v))) (fun _ _ hv => cpV (fr' := 7) (lo' := 158) (i := 4) (As := [.int a2]) (S := [.int (0 : Int32), .ref a3]) (a := a1) (c := 10) rfl lk_Z_57 mw_D_usesOf mv_D_usesOf rfl ⟨by decide, rfl⟩ rfl rfl rfl (gd_some hv).1 (sp_D_usesOf G hv)) (fun x1 M1 => ?_) (fun E M1 hv z hz => ?_)
  · refine im_i2l 5 7 rfl ?_
    refine im_lastore 6 8 rfl (fun M2 => ?_)
    refine im_goto 7 9 15 rfl (by decide) ?_
    refine im_iconst 11 15 rfl rfl ?_
    exact im_end rfl (wp_ireturn 12 16 rfl rfl)
  · replace hz : (if E = "java/lang/IndexOutOfBoundsException" then (some ((1 : Int32), M1)) else (none)) = some z := hz
    by_cases h1 : E = "java/lang/IndexOutOfBoundsException"
    · rw [if_pos h1] at hz
      subst h1
      refine xpV (fr' := 7) (lo' := 158) (i := 4) (As := [.int a2]) (S := [.int (0 : Int32), .ref a3]) (a := a1) (c := 10) rfl lm_Z_57 mw_D_usesOf mv_D_usesOf rfl ⟨by decide, rfl⟩ rfl rfl rfl (gd_some hv).1 (sp_D_usesOf G hv) (tw_catch (n := 0) (i := 8) (len := 1) (j := 3) rfl (fun z hz => by rw [show (tableOf (mi_hh mi_Z_usesOf)).take 0 = [] from rfl] at hz; exact nomatch hz) (by decide) (by decide) (tb_m 1254 (by decide +kernel) rfl) (List.mem_of_getElem? (i := 2) (by decide +kernel)) rfl (Or.inl ⟨⟨3, rfl, rfl⟩, rfl⟩) rfl ?_)
      refine (?_ : im_I mi_Z_usesOf 8 179 G M sw_i (some ((1 : Int32), M1)) 13 [some (.ref a1), some (.int a2), some (.ref a3), none] [] M1) z hz
      refine im_iconst 9 13 rfl rfl ?_
      exact im_end rfl (wp_ireturn 10 14 rfl rfl)
    · rw [if_neg h1] at hz
      cases hz

theorem sp_Z_usesOf (G : gl_T) {a1 : Nat} {a2 : Int32} {a3 : Nat} {M : mm_T} {y : Int32 × mm_T} (h : ff_Z_usesOf a1 a2 a3 M = some y) : sp_S mi_Z_usesOf 8 179 G [.ref a1, .int a2, .ref a3] M (sw_i y).1 (sw_i y).2 := sp_of mo_Z_usesOf mw_Z_usesOf (Or.inl (by decide +kernel)) rfl rfl (Or.inr ⟨_, rfl⟩) (ip_Z_usesOf G a1 a2 a3 M y h)

set_option maxRecDepth 100000 in
set_option maxHeartbeats 4000000 in
theorem ip_Z_isLiveIn (G : gl_T) (a1 : Nat) (a2 : Int32) (a3 : Int32) (a4 : Nat) (M : mm_T) : im_I mi_Z_isLiveIn 8 178 G M sw_i (ff_Z_isLiveIn a1 a2 a3 a4 M) 0 [some (.ref a1), some (.int a2), some (.int a3), some (.ref a4), none] [] M := by
  unfold ff_Z_isLiveIn
  refine im_aload_n 0 0 rfl rfl ?_
  refine im_iconst 1 1 rfl rfl ?_
  refine im_aload_n 2 2 rfl rfl ?_
  refine im_iload_n 3 3 rfl rfl ?_
  refine im_iload_n 4 4 rfl rfl ?_
  refine im_cs (S := [.int (0 : Int32), .ref a4]) (so := (fun v => some (.int v))) (fun _ _ hv => cpV (fr' := 7) (lo' := 156) (i := 5) (As := [.int a2, .int a3]) (S := [.int (0 : Int32), .ref a4]) (a := a1) (c := 10) rfl lk_Z_63 mw_D_isLiveIn mv_D_isLiveIn rfl ⟨by decide, rfl⟩ rfl rfl rfl (gd_some hv).1 (sp_D_isLiveIn G hv)) (fun x1 M1 => ?_) (fun E M1 hv z hz => ?_)
  · refine im_jp (fun j16 => ∀ (x2 : Int64), im_I mi_Z_isLiveIn 8 178 G M sw_i (j16 x2) 16 [none, none, none, none, none] [.long x2, .int (0 : Int32), .ref a4] M1) ?_ (fun j16 hj16 => ?_)
    · intro x2
      show im_I mi_Z_isLiveIn 8 178 G M sw_i (_) 16 [none, none, none, none, none] [.long x2, .int (0 : Int32), .ref a4] M1
      refine im_lastore 10 16 rfl (fun M2 => ?_)
      refine im_goto 11 17 28 rfl (by decide) ?_
      refine im_iconst 18 28 rfl rfl ?_
      exact im_end rfl (wp_ireturn 19 29 rfl rfl)
    refine im_if_eq 6 8 15 rfl (by decide) ?_ ?_
    · refine im_lconst 9 15 rfl rfl ?_
      exact im_less _ (by simp [lv_le]) (hj16 (0 : Int64))
    · refine im_lconst 7 11 rfl rfl ?_
      refine im_goto 8 12 16 rfl (by decide) ?_
      exact im_less _ (by simp [lv_le]) (hj16 (1 : Int64))
  · replace hz : (if E = "java/lang/IndexOutOfBoundsException" then (some ((1 : Int32), M1)) else (if E = "java/lang/IllegalArgumentException" then (some ((2 : Int32), M1)) else (none))) = some z := hz
    by_cases h2 : E = "java/lang/IndexOutOfBoundsException"
    · rw [if_pos h2] at hz
      subst h2
      refine xpV (fr' := 7) (lo' := 156) (i := 5) (As := [.int a2, .int a3]) (S := [.int (0 : Int32), .ref a4]) (a := a1) (c := 10) rfl lm_Z_63 mw_D_isLiveIn mv_D_isLiveIn rfl ⟨by decide, rfl⟩ rfl rfl rfl (gd_some hv).1 (sp_D_isLiveIn G hv) (tw_catch (n := 0) (i := 12) (len := 2) (j := 4) rfl (fun z hz => by rw [show (tableOf (mi_hh mi_Z_isLiveIn)).take 0 = [] from rfl] at hz; exact nomatch hz) (by decide) (by decide) (tb_m 1254 (by decide +kernel) rfl) (List.mem_of_getElem? (i := 2) (by decide +kernel)) rfl (Or.inr ⟨rfl, rfl⟩) rfl ?_)
      refine (?_ : im_I mi_Z_isLiveIn 8 178 G M sw_i (some ((1 : Int32), M1)) 22 [some (.ref a1), some (.int a2), some (.int a3), some (.ref a4), none] [] M1) z hz
      refine im_iconst 13 22 rfl rfl ?_
      exact im_end rfl (wp_ireturn 14 23 rfl rfl)
    · rw [if_neg h2] at hz
      by_cases h1 : E = "java/lang/IllegalArgumentException"
      · rw [if_pos h1] at hz
        subst h1
        refine xpV (fr' := 7) (lo' := 156) (i := 5) (As := [.int a2, .int a3]) (S := [.int (0 : Int32), .ref a4]) (a := a1) (c := 10) rfl lm_Z_63 mw_D_isLiveIn mv_D_isLiveIn rfl ⟨by decide, rfl⟩ rfl rfl rfl (gd_some hv).1 (sp_D_isLiveIn G hv) (tw_catch (n := 1) (i := 15) (len := 2) (j := 4) rfl (tk_Z_isLiveIn_1) (by decide) (by decide) (tb_m 1226 (by decide +kernel) rfl) (List.mem_of_getElem? (i := 1) (by decide +kernel)) rfl (Or.inr ⟨rfl, rfl⟩) rfl ?_)
        refine (?_ : im_I mi_Z_isLiveIn 8 178 G M sw_i (some ((2 : Int32), M1)) 26 [some (.ref a1), some (.int a2), some (.int a3), some (.ref a4), none] [] M1) z hz
        refine im_iconst 16 26 rfl rfl ?_
        exact im_end rfl (wp_ireturn 17 27 rfl rfl)
      · rw [if_neg h1] at hz
        cases hz

theorem sp_Z_isLiveIn (G : gl_T) {a1 : Nat} {a2 : Int32} {a3 : Int32} {a4 : Nat} {M : mm_T} {y : Int32 × mm_T} (h : ff_Z_isLiveIn a1 a2 a3 a4 M = some y) : sp_S mi_Z_isLiveIn 8 178 G [.ref a1, .int a2, .int a3, .ref a4] M (sw_i y).1 (sw_i y).2 := sp_of mo_Z_isLiveIn mw_Z_isLiveIn (Or.inl (by decide +kernel)) rfl rfl (Or.inr ⟨_, rfl⟩) (ip_Z_isLiveIn G a1 a2 a3 a4 M y h)

set_option maxRecDepth 100000 in
set_option maxHeartbeats 4000000 in
theorem ip_Z_isLiveOut (G : gl_T) (a1 : Nat) (a2 : Int32) (a3 : Int32) (a4 : Nat) (M : mm_T) : im_I mi_Z_isLiveOut 8 178 G M sw_i (ff_Z_isLiveOut a1 a2 a3 a4 M) 0 [some (.ref a1), some (.int a2), some (.int a3), some (.ref a4), none] [] M := by
  unfold ff_Z_isLiveOut
  refine im_aload_n 0 0 rfl rfl ?_
  refine im_iconst 1 1 rfl rfl ?_
  refine im_aload_n 2 2 rfl rfl ?_
  refine im_iload_n 3 3 rfl rfl ?_
  refine im_iload_n 4 4 rfl rfl ?_
  refine im_cs (S := [.int (0 : Int32), .ref a4]) (so := (fun v => some (.int v))) (fun _ _ hv => cpV (fr' := 7) (lo' := 156) (i := 5) (As := [.int a2, .int a3]) (S := [.int (0 : Int32), .ref a4]) (a := a1) (c := 10) rfl lk_Z_66 mw_D_isLiveOut mv_D_isLiveOut rfl ⟨by decide, rfl⟩ rfl rfl rfl (gd_some hv).1 (sp_D_isLiveOut G hv)) (fun x1 M1 => ?_) (fun E M1 hv z hz => ?_)
  · refine im_jp (fun j16 => ∀ (x2 : Int64), im_I mi_Z_isLiveOut 8 178 G M sw_i (j16 x2) 16 [none, none, none, none, none] [.long x2, .int (0 : Int32), .ref a4] M1) ?_ (fun j16 hj16 => ?_)
    · intro x2
      show im_I mi_Z_isLiveOut 8 178 G M sw_i (_) 16 [none, none, none, none, none] [.long x2, .int (0 : Int32), .ref a4] M1
      refine im_lastore 10 16 rfl (fun M2 => ?_)
      refine im_goto 11 17 28 rfl (by decide) ?_
      refine im_iconst 18 28 rfl rfl ?_
      exact im_end rfl (wp_ireturn 19 29 rfl rfl)
    refine im_if_eq 6 8 15 rfl (by decide) ?_ ?_
    · refine im_lconst 9 15 rfl rfl ?_
      exact im_less _ (by simp [lv_le]) (hj16 (0 : Int64))
    · refine im_lconst 7 11 rfl rfl ?_
      refine im_goto 8 12 16 rfl (by decide) ?_
      exact im_less _ (by simp [lv_le]) (hj16 (1 : Int64))
  · replace hz : (if E = "java/lang/IndexOutOfBoundsException" then (some ((1 : Int32), M1)) else (if E = "java/lang/IllegalArgumentException" then (some ((2 : Int32), M1)) else (none))) = some z := hz
    by_cases h2 : E = "java/lang/IndexOutOfBoundsException"
    · rw [if_pos h2] at hz
      subst h2
      refine xpV (fr' := 7) (lo' := 156) (i := 5) (As := [.int a2, .int a3]) (S := [.int (0 : Int32), .ref a4]) (a := a1) (c := 10) rfl lm_Z_66 mw_D_isLiveOut mv_D_isLiveOut rfl ⟨by decide, rfl⟩ rfl rfl rfl (gd_some hv).1 (sp_D_isLiveOut G hv) (tw_catch (n := 0) (i := 12) (len := 2) (j := 4) rfl (fun z hz => by rw [show (tableOf (mi_hh mi_Z_isLiveOut)).take 0 = [] from rfl] at hz; exact nomatch hz) (by decide) (by decide) (tb_m 1254 (by decide +kernel) rfl) (List.mem_of_getElem? (i := 2) (by decide +kernel)) rfl (Or.inr ⟨rfl, rfl⟩) rfl ?_)
      refine (?_ : im_I mi_Z_isLiveOut 8 178 G M sw_i (some ((1 : Int32), M1)) 22 [some (.ref a1), some (.int a2), some (.int a3), some (.ref a4), none] [] M1) z hz
      refine im_iconst 13 22 rfl rfl ?_
      exact im_end rfl (wp_ireturn 14 23 rfl rfl)
    · rw [if_neg h2] at hz
      by_cases h1 : E = "java/lang/IllegalArgumentException"
      · rw [if_pos h1] at hz
        subst h1
        refine xpV (fr' := 7) (lo' := 156) (i := 5) (As := [.int a2, .int a3]) (S := [.int (0 : Int32), .ref a4]) (a := a1) (c := 10) rfl lm_Z_66 mw_D_isLiveOut mv_D_isLiveOut rfl ⟨by decide, rfl⟩ rfl rfl rfl (gd_some hv).1 (sp_D_isLiveOut G hv) (tw_catch (n := 1) (i := 15) (len := 2) (j := 4) rfl (tk_Z_isLiveOut_1) (by decide) (by decide) (tb_m 1226 (by decide +kernel) rfl) (List.mem_of_getElem? (i := 1) (by decide +kernel)) rfl (Or.inr ⟨rfl, rfl⟩) rfl ?_)
        refine (?_ : im_I mi_Z_isLiveOut 8 178 G M sw_i (some ((2 : Int32), M1)) 26 [some (.ref a1), some (.int a2), some (.int a3), some (.ref a4), none] [] M1) z hz
        refine im_iconst 16 26 rfl rfl ?_
        exact im_end rfl (wp_ireturn 17 27 rfl rfl)
      · rw [if_neg h1] at hz
        cases hz

theorem sp_Z_isLiveOut (G : gl_T) {a1 : Nat} {a2 : Int32} {a3 : Int32} {a4 : Nat} {M : mm_T} {y : Int32 × mm_T} (h : ff_Z_isLiveOut a1 a2 a3 a4 M = some y) : sp_S mi_Z_isLiveOut 8 178 G [.ref a1, .int a2, .int a3, .ref a4] M (sw_i y).1 (sw_i y).2 := sp_of mo_Z_isLiveOut mw_Z_isLiveOut (Or.inl (by decide +kernel)) rfl rfl (Or.inr ⟨_, rfl⟩) (ip_Z_isLiveOut G a1 a2 a3 a4 M y h)

set_option maxRecDepth 100000 in
set_option maxHeartbeats 4000000 in
theorem ip_Z_liveBefore (G : gl_T) (a1 : Nat) (a2 : Int32) (a3 : Nat) (M : mm_T) : im_I mi_Z_liveBefore 8 177 G M sw_i (ff_Z_liveBefore a1 a2 a3 M) 0 [some (.ref a1), some (.int a2), some (.ref a3), none] [] M := by
  unfold ff_Z_liveBefore
  refine im_aload_n 0 0 rfl rfl ?_
  refine im_iconst 1 1 rfl rfl ?_
  refine im_aload_n 2 2 rfl rfl ?_
  refine im_iload_n 3 3 rfl rfl ?_
  refine im_cs (S := [.int (0 : Int32), .ref a3]) (so := (fun v => some (.int v))) (fun _ _ hv => cpV (fr' := 7) (lo' := 156) (i := 4) (As := [.int a2]) (S := [.int (0 : Int32), .ref a3]) (a := a1) (c := 10) rfl lk_Z_69 mw_D_liveBefore mv_D_liveBefore rfl ⟨by decide, rfl⟩ rfl rfl rfl (gd_some hv).1 (sp_D_liveBefore G hv)) (fun x1 M1 => ?_) (fun E M1 hv z hz => ?_)
  · refine im_i2l 5 7 rfl ?_
    refine im_lastore 6 8 rfl (fun M2 => ?_)
    refine im_goto 7 9 15 rfl (by decide) ?_
    refine im_iconst 11 15 rfl rfl ?_
    exact im_end rfl (wp_ireturn 12 16 rfl rfl)
  · replace hz : (if E = "java/lang/IndexOutOfBoundsException" then (some ((1 : Int32), M1)) else (none)) = some z := hz
    by_cases h1 : E = "java/lang/IndexOutOfBoundsException"
    · rw [if_pos h1] at hz
      subst h1
      refine xpV (fr' := 7) (lo' := 156) (i := 4) (As := [.int a2]) (S := [.int (0 : Int32), .ref a3]) (a := a1) (c := 10) rfl lm_Z_69 mw_D_liveBefore mv_D_liveBefore rfl ⟨by decide, rfl⟩ rfl rfl rfl (gd_some hv).1 (sp_D_liveBefore G hv) (tw_catch (n := 0) (i := 8) (len := 1) (j := 3) rfl (fun z hz => by rw [show (tableOf (mi_hh mi_Z_liveBefore)).take 0 = [] from rfl] at hz; exact nomatch hz) (by decide) (by decide) (tb_m 1254 (by decide +kernel) rfl) (List.mem_of_getElem? (i := 2) (by decide +kernel)) rfl (Or.inl ⟨⟨3, rfl, rfl⟩, rfl⟩) rfl ?_)
      refine (?_ : im_I mi_Z_liveBefore 8 177 G M sw_i (some ((1 : Int32), M1)) 13 [some (.ref a1), some (.int a2), some (.ref a3), none] [] M1) z hz
      refine im_iconst 9 13 rfl rfl ?_
      exact im_end rfl (wp_ireturn 10 14 rfl rfl)
    · rw [if_neg h1] at hz
      cases hz

theorem sp_Z_liveBefore (G : gl_T) {a1 : Nat} {a2 : Int32} {a3 : Nat} {M : mm_T} {y : Int32 × mm_T} (h : ff_Z_liveBefore a1 a2 a3 M = some y) : sp_S mi_Z_liveBefore 8 177 G [.ref a1, .int a2, .ref a3] M (sw_i y).1 (sw_i y).2 := sp_of mo_Z_liveBefore mw_Z_liveBefore (Or.inl (by decide +kernel)) rfl rfl (Or.inr ⟨_, rfl⟩) (ip_Z_liveBefore G a1 a2 a3 M y h)

set_option maxRecDepth 100000 in
set_option maxHeartbeats 4000000 in
theorem ip_Z_isDead (G : gl_T) (a1 : Nat) (a2 : Int32) (a3 : Nat) (M : mm_T) : im_I mi_Z_isDead 8 177 G M sw_i (ff_Z_isDead a1 a2 a3 M) 0 [some (.ref a1), some (.int a2), some (.ref a3), none] [] M := by
  unfold ff_Z_isDead
  refine im_aload_n 0 0 rfl rfl ?_
  refine im_iconst 1 1 rfl rfl ?_
  refine im_aload_n 2 2 rfl rfl ?_
  refine im_iload_n 3 3 rfl rfl ?_
  refine im_cs (S := [.int (0 : Int32), .ref a3]) (so := (fun v => some (.int v))) (fun _ _ hv => cpV (fr' := 7) (lo' := 156) (i := 4) (As := [.int a2]) (S := [.int (0 : Int32), .ref a3]) (a := a1) (c := 10) rfl lk_Z_72 mw_D_isDead mv_D_isDead rfl ⟨by decide, rfl⟩ rfl rfl rfl (gd_some hv).1 (sp_D_isDead G hv)) (fun x1 M1 => ?_) (fun E M1 hv z hz => ?_)
  · refine im_jp (fun j15 => ∀ (x2 : Int64), im_I mi_Z_isDead 8 177 G M sw_i (j15 x2) 15 [none, none, none, none] [.long x2, .int (0 : Int32), .ref a3] M1) ?_ (fun j15 hj15 => ?_)
    · intro x2
      show im_I mi_Z_isDead 8 177 G M sw_i (_) 15 [none, none, none, none] [.long x2, .int (0 : Int32), .ref a3] M1
      refine im_lastore 9 15 rfl (fun M2 => ?_)
      refine im_goto 10 16 22 rfl (by decide) ?_
      refine im_iconst 14 22 rfl rfl ?_
      exact im_end rfl (wp_ireturn 15 23 rfl rfl)
    refine im_if_eq 5 7 14 rfl (by decide) ?_ ?_
    · refine im_lconst 8 14 rfl rfl ?_
      exact im_less _ (by simp [lv_le]) (hj15 (0 : Int64))
    · refine im_lconst 6 10 rfl rfl ?_
      refine im_goto 7 11 15 rfl (by decide) ?_
      exact im_less _ (by simp [lv_le]) (hj15 (1 : Int64))
  · replace hz : (if E = "java/lang/IndexOutOfBoundsException" then (some ((1 : Int32), M1)) else (none)) = some z := hz
    by_cases h1 : E = "java/lang/IndexOutOfBoundsException"
    · rw [if_pos h1] at hz
      subst h1
      refine xpV (fr' := 7) (lo' := 156) (i := 4) (As := [.int a2]) (S := [.int (0 : Int32), .ref a3]) (a := a1) (c := 10) rfl lm_Z_72 mw_D_isDead mv_D_isDead rfl ⟨by decide, rfl⟩ rfl rfl rfl (gd_some hv).1 (sp_D_isDead G hv) (tw_catch (n := 0) (i := 11) (len := 1) (j := 3) rfl (fun z hz => by rw [show (tableOf (mi_hh mi_Z_isDead)).take 0 = [] from rfl] at hz; exact nomatch hz) (by decide) (by decide) (tb_m 1254 (by decide +kernel) rfl) (List.mem_of_getElem? (i := 2) (by decide +kernel)) rfl (Or.inl ⟨⟨3, rfl, rfl⟩, rfl⟩) rfl ?_)
      refine (?_ : im_I mi_Z_isDead 8 177 G M sw_i (some ((1 : Int32), M1)) 20 [some (.ref a1), some (.int a2), some (.ref a3), none] [] M1) z hz
      refine im_iconst 12 20 rfl rfl ?_
      exact im_end rfl (wp_ireturn 13 21 rfl rfl)
    · rw [if_neg h1] at hz
      cases hz

theorem sp_Z_isDead (G : gl_T) {a1 : Nat} {a2 : Int32} {a3 : Nat} {M : mm_T} {y : Int32 × mm_T} (h : ff_Z_isDead a1 a2 a3 M = some y) : sp_S mi_Z_isDead 8 177 G [.ref a1, .int a2, .ref a3] M (sw_i y).1 (sw_i y).2 := sp_of mo_Z_isDead mw_Z_isDead (Or.inl (by decide +kernel)) rfl rfl (Or.inr ⟨_, rfl⟩) (ip_Z_isDead G a1 a2 a3 M y h)

set_option maxRecDepth 100000 in
set_option maxHeartbeats 4000000 in
theorem ip_Z_interfere (G : gl_T) (a1 : Nat) (a2 : Int32) (a3 : Int32) (a4 : Nat) (M : mm_T) : im_I mi_Z_interfere 8 178 G M sw_i (ff_Z_interfere a1 a2 a3 a4 M) 0 [some (.ref a1), some (.int a2), some (.int a3), some (.ref a4), none] [] M := by
  unfold ff_Z_interfere
  refine im_aload_n 0 0 rfl rfl ?_
  refine im_iconst 1 1 rfl rfl ?_
  refine im_aload_n 2 2 rfl rfl ?_
  refine im_iload_n 3 3 rfl rfl ?_
  refine im_iload_n 4 4 rfl rfl ?_
  refine im_cs (S := [.int (0 : Int32), .ref a4]) (so := (fun v => some (.int v))) (fun _ _ hv => cpV (fr' := 7) (lo' := 156) (i := 5) (As := [.int a2, .int a3]) (S := [.int (0 : Int32), .ref a4]) (a := a1) (c := 10) rfl lk_Z_75 mw_D_interfere mv_D_interfere rfl ⟨by decide, rfl⟩ rfl rfl rfl (gd_some hv).1 (sp_D_interfere G hv)) (fun x1 M1 => ?_) (fun E M1 hv z hz => ?_)
  · refine im_jp (fun j16 => ∀ (x2 : Int64), im_I mi_Z_interfere 8 178 G M sw_i (j16 x2) 16 [none, none, none, none, none] [.long x2, .int (0 : Int32), .ref a4] M1) ?_ (fun j16 hj16 => ?_)
    · intro x2
      show im_I mi_Z_interfere 8 178 G M sw_i (_) 16 [none, none, none, none, none] [.long x2, .int (0 : Int32), .ref a4] M1
      refine im_lastore 10 16 rfl (fun M2 => ?_)
      refine im_goto 11 17 24 rfl (by decide) ?_
      refine im_iconst 15 24 rfl rfl ?_
      exact im_end rfl (wp_ireturn 16 25 rfl rfl)
    refine im_if_eq 6 8 15 rfl (by decide) ?_ ?_
    · refine im_lconst 9 15 rfl rfl ?_
      exact im_less _ (by simp [lv_le]) (hj16 (0 : Int64))
    · refine im_lconst 7 11 rfl rfl ?_
      refine im_goto 8 12 16 rfl (by decide) ?_
      exact im_less _ (by simp [lv_le]) (hj16 (1 : Int64))
  · replace hz : (if E = "java/lang/IllegalArgumentException" then (some ((1 : Int32), M1)) else (none)) = some z := hz
    by_cases h1 : E = "java/lang/IllegalArgumentException"
    · rw [if_pos h1] at hz
      subst h1
      refine xpV (fr' := 7) (lo' := 156) (i := 5) (As := [.int a2, .int a3]) (S := [.int (0 : Int32), .ref a4]) (a := a1) (c := 10) rfl lm_Z_75 mw_D_interfere mv_D_interfere rfl ⟨by decide, rfl⟩ rfl rfl rfl (gd_some hv).1 (sp_D_interfere G hv) (tw_catch (n := 0) (i := 12) (len := 2) (j := 4) rfl (fun z hz => by rw [show (tableOf (mi_hh mi_Z_interfere)).take 0 = [] from rfl] at hz; exact nomatch hz) (by decide) (by decide) (tb_m 1226 (by decide +kernel) rfl) (List.mem_of_getElem? (i := 1) (by decide +kernel)) rfl (Or.inr ⟨rfl, rfl⟩) rfl ?_)
      refine (?_ : im_I mi_Z_interfere 8 178 G M sw_i (some ((1 : Int32), M1)) 22 [some (.ref a1), some (.int a2), some (.int a3), some (.ref a4), none] [] M1) z hz
      refine im_iconst 13 22 rfl rfl ?_
      exact im_end rfl (wp_ireturn 14 23 rfl rfl)
    · rw [if_neg h1] at hz
      cases hz

theorem sp_Z_interfere (G : gl_T) {a1 : Nat} {a2 : Int32} {a3 : Int32} {a4 : Nat} {M : mm_T} {y : Int32 × mm_T} (h : ff_Z_interfere a1 a2 a3 a4 M = some y) : sp_S mi_Z_interfere 8 178 G [.ref a1, .int a2, .int a3, .ref a4] M (sw_i y).1 (sw_i y).2 := sp_of mo_Z_interfere mw_Z_interfere (Or.inl (by decide +kernel)) rfl rfl (Or.inr ⟨_, rfl⟩) (ip_Z_interfere G a1 a2 a3 a4 M y h)

set_option maxRecDepth 100000 in
set_option maxHeartbeats 4000000 in
theorem ip_Z_isRedundant (G : gl_T) (a1 : Nat) (a2 : Int32) (a3 : Nat) (M : mm_T) : im_I mi_Z_isRedundant 8 182 G M sw_i (ff_Z_isRedundant a1 a2 a3 M) 0 [some (.ref a1), some (.int a2), some (.ref a3), none] [] M := by
  unfold ff_Z_isRedundant
  refine im_aload_n 0 0 rfl rfl ?_
  refine im_iconst 1 1 rfl rfl ?_
  refine im_aload_n 2 2 rfl rfl ?_
  refine im_iload_n 3 3 rfl rfl ?_
  refine im_cs (S := [.int (0 : Int32), .ref a3]) (so := (fun v => some (.int v))) (fun _ _ hv => cpV (fr' := 7) (lo' := 161) (i := 4) (As := [.int a2]) (S := [.int (0 : Int32), .ref a3]) (a := a1) (c := 10) rfl lk_Z_78 mw_D_isRedundant mv_D_isRedundant rfl ⟨by decide, rfl⟩ rfl rfl rfl (gd_some hv).1 (sp_D_isRedundant G hv)) (fun x1 M1 => ?_) (fun E M1 hv z hz => ?_)
  · refine im_jp (fun j15 => ∀ (x2 : Int64), im_I mi_Z_isRedundant 8 182 G M sw_i (j15 x2) 15 [none, none, none, none] [.long x2, .int (0 : Int32), .ref a3] M1) ?_ (fun j15 hj15 => ?_)
    · intro x2
      show im_I mi_Z_isRedundant 8 182 G M sw_i (_) 15 [none, none, none, none] [.long x2, .int (0 : Int32), .ref a3] M1
      refine im_lastore 9 15 rfl (fun M2 => ?_)
      refine im_goto 10 16 22 rfl (by decide) ?_
      refine im_iconst 14 22 rfl rfl ?_
      exact im_end rfl (wp_ireturn 15 23 rfl rfl)
    refine im_if_eq 5 7 14 rfl (by decide) ?_ ?_
    · refine im_lconst 8 14 rfl rfl ?_
      exact im_less _ (by simp [lv_le]) (hj15 (0 : Int64))
    · refine im_lconst 6 10 rfl rfl ?_
      refine im_goto 7 11 15 rfl (by decide) ?_
      exact im_less _ (by simp [lv_le]) (hj15 (1 : Int64))
  · replace hz : (if E = "java/lang/IndexOutOfBoundsException" then (some ((1 : Int32), M1)) else (none)) = some z := hz
    by_cases h1 : E = "java/lang/IndexOutOfBoundsException"
    · rw [if_pos h1] at hz
      subst h1
      refine xpV (fr' := 7) (lo' := 161) (i := 4) (As := [.int a2]) (S := [.int (0 : Int32), .ref a3]) (a := a1) (c := 10) rfl lm_Z_78 mw_D_isRedundant mv_D_isRedundant rfl ⟨by decide, rfl⟩ rfl rfl rfl (gd_some hv).1 (sp_D_isRedundant G hv) (tw_catch (n := 0) (i := 11) (len := 1) (j := 3) rfl (fun z hz => by rw [show (tableOf (mi_hh mi_Z_isRedundant)).take 0 = [] from rfl] at hz; exact nomatch hz) (by decide) (by decide) (tb_m 1254 (by decide +kernel) rfl) (List.mem_of_getElem? (i := 2) (by decide +kernel)) rfl (Or.inl ⟨⟨3, rfl, rfl⟩, rfl⟩) rfl ?_)
      refine (?_ : im_I mi_Z_isRedundant 8 182 G M sw_i (some ((1 : Int32), M1)) 20 [some (.ref a1), some (.int a2), some (.ref a3), none] [] M1) z hz
      refine im_iconst 12 20 rfl rfl ?_
      exact im_end rfl (wp_ireturn 13 21 rfl rfl)
    · rw [if_neg h1] at hz
      cases hz

theorem sp_Z_isRedundant (G : gl_T) {a1 : Nat} {a2 : Int32} {a3 : Nat} {M : mm_T} {y : Int32 × mm_T} (h : ff_Z_isRedundant a1 a2 a3 M = some y) : sp_S mi_Z_isRedundant 8 182 G [.ref a1, .int a2, .ref a3] M (sw_i y).1 (sw_i y).2 := sp_of mo_Z_isRedundant mw_Z_isRedundant (Or.inl (by decide +kernel)) rfl rfl (Or.inr ⟨_, rfl⟩) (ip_Z_isRedundant G a1 a2 a3 M y h)

set_option maxRecDepth 100000 in
set_option maxHeartbeats 4000000 in
theorem ip_Z_availableAt (G : gl_T) (a1 : Nat) (a2 : Int32) (a3 : Nat) (M : mm_T) : im_I mi_Z_availableAt 8 182 G M sw_i (ff_Z_availableAt a1 a2 a3 M) 0 [some (.ref a1), some (.int a2), some (.ref a3), none] [] M := by
  unfold ff_Z_availableAt
  refine im_aload_n 0 0 rfl rfl ?_
  refine im_iconst 1 1 rfl rfl ?_
  refine im_aload_n 2 2 rfl rfl ?_
  refine im_iload_n 3 3 rfl rfl ?_
  refine im_cs (S := [.int (0 : Int32), .ref a3]) (so := (fun v => some (.int v))) (fun _ _ hv => cpV (fr' := 7) (lo' := 161) (i := 4) (As := [.int a2]) (S := [.int (0 : Int32), .ref a3]) (a := a1) (c := 10) rfl lk_Z_81 mw_D_availableAt mv_D_availableAt rfl ⟨by decide, rfl⟩ rfl rfl rfl (gd_some hv).1 (sp_D_availableAt G hv)) (fun x1 M1 => ?_) (fun E M1 hv z hz => ?_)
  · refine im_i2l 5 7 rfl ?_
    refine im_lastore 6 8 rfl (fun M2 => ?_)
    refine im_goto 7 9 15 rfl (by decide) ?_
    refine im_iconst 11 15 rfl rfl ?_
    exact im_end rfl (wp_ireturn 12 16 rfl rfl)
  · replace hz : (if E = "java/lang/IndexOutOfBoundsException" then (some ((1 : Int32), M1)) else (none)) = some z := hz
    by_cases h1 : E = "java/lang/IndexOutOfBoundsException"
    · rw [if_pos h1] at hz
      subst h1
      refine xpV (fr' := 7) (lo' := 161) (i := 4) (As := [.int a2]) (S := [.int (0 : Int32), .ref a3]) (a := a1) (c := 10) rfl lm_Z_81 mw_D_availableAt mv_D_availableAt rfl ⟨by decide, rfl⟩ rfl rfl rfl (gd_some hv).1 (sp_D_availableAt G hv) (tw_catch (n := 0) (i := 8) (len := 1) (j := 3) rfl (fun z hz => by rw [show (tableOf (mi_hh mi_Z_availableAt)).take 0 = [] from rfl] at hz; exact nomatch hz) (by decide) (by decide) (tb_m 1254 (by decide +kernel) rfl) (List.mem_of_getElem? (i := 2) (by decide +kernel)) rfl (Or.inl ⟨⟨3, rfl, rfl⟩, rfl⟩) rfl ?_)
      refine (?_ : im_I mi_Z_availableAt 8 182 G M sw_i (some ((1 : Int32), M1)) 13 [some (.ref a1), some (.int a2), some (.ref a3), none] [] M1) z hz
      refine im_iconst 9 13 rfl rfl ?_
      exact im_end rfl (wp_ireturn 10 14 rfl rfl)
    · rw [if_neg h1] at hz
      cases hz

theorem sp_Z_availableAt (G : gl_T) {a1 : Nat} {a2 : Int32} {a3 : Nat} {M : mm_T} {y : Int32 × mm_T} (h : ff_Z_availableAt a1 a2 a3 M = some y) : sp_S mi_Z_availableAt 8 182 G [.ref a1, .int a2, .ref a3] M (sw_i y).1 (sw_i y).2 := sp_of mo_Z_availableAt mw_Z_availableAt (Or.inl (by decide +kernel)) rfl rfl (Or.inr ⟨_, rfl⟩) (ip_Z_availableAt G a1 a2 a3 M y h)

set_option maxRecDepth 100000 in
set_option maxHeartbeats 4000000 in
theorem ip_Z_dominates (G : gl_T) (a1 : Nat) (a2 : Int32) (a3 : Int32) (a4 : Nat) (M : mm_T) : im_I mi_Z_dominates 8 154 G M sw_i (ff_Z_dominates a1 a2 a3 a4 M) 0 [some (.ref a1), some (.int a2), some (.int a3), some (.ref a4), none] [] M := by
  unfold ff_Z_dominates
  refine im_aload_n 0 0 rfl rfl ?_
  refine im_iconst 1 1 rfl rfl ?_
  refine im_aload_n 2 2 rfl rfl ?_
  refine im_iload_n 3 3 rfl rfl ?_
  refine im_iload_n 4 4 rfl rfl ?_
  refine im_cs (S := [.int (0 : Int32), .ref a4]) (so := (fun v => some (.int v))) (fun _ _ hv => cpV (fr' := 7) (lo' := 132) (i := 5) (As := [.int a2, .int a3]) (S := [.int (0 : Int32), .ref a4]) (a := a1) (c := 10) rfl lk_Z_84 mw_D_dominates mv_D_dominates rfl ⟨by decide, rfl⟩ rfl rfl rfl (gd_some hv).1 (sp_D_dominates G hv)) (fun x1 M1 => ?_) (fun E M1 hv z hz => ?_)
  · refine im_jp (fun j16 => ∀ (x2 : Int64), im_I mi_Z_dominates 8 154 G M sw_i (j16 x2) 16 [none, none, none, none, none] [.long x2, .int (0 : Int32), .ref a4] M1) ?_ (fun j16 hj16 => ?_)
    · intro x2
      show im_I mi_Z_dominates 8 154 G M sw_i (_) 16 [none, none, none, none, none] [.long x2, .int (0 : Int32), .ref a4] M1
      refine im_lastore 10 16 rfl (fun M2 => ?_)
      refine im_goto 11 17 24 rfl (by decide) ?_
      refine im_iconst 15 24 rfl rfl ?_
      exact im_end rfl (wp_ireturn 16 25 rfl rfl)
    refine im_if_eq 6 8 15 rfl (by decide) ?_ ?_
    · refine im_lconst 9 15 rfl rfl ?_
      exact im_less _ (by simp [lv_le]) (hj16 (0 : Int64))
    · refine im_lconst 7 11 rfl rfl ?_
      refine im_goto 8 12 16 rfl (by decide) ?_
      exact im_less _ (by simp [lv_le]) (hj16 (1 : Int64))
  · replace hz : (if E = "java/lang/IndexOutOfBoundsException" then (some ((1 : Int32), M1)) else (none)) = some z := hz
    by_cases h1 : E = "java/lang/IndexOutOfBoundsException"
    · rw [if_pos h1] at hz
      subst h1
      refine xpV (fr' := 7) (lo' := 132) (i := 5) (As := [.int a2, .int a3]) (S := [.int (0 : Int32), .ref a4]) (a := a1) (c := 10) rfl lm_Z_84 mw_D_dominates mv_D_dominates rfl ⟨by decide, rfl⟩ rfl rfl rfl (gd_some hv).1 (sp_D_dominates G hv) (tw_catch (n := 0) (i := 12) (len := 2) (j := 4) rfl (fun z hz => by rw [show (tableOf (mi_hh mi_Z_dominates)).take 0 = [] from rfl] at hz; exact nomatch hz) (by decide) (by decide) (tb_m 1254 (by decide +kernel) rfl) (List.mem_of_getElem? (i := 2) (by decide +kernel)) rfl (Or.inr ⟨rfl, rfl⟩) rfl ?_)
      refine (?_ : im_I mi_Z_dominates 8 154 G M sw_i (some ((1 : Int32), M1)) 22 [some (.ref a1), some (.int a2), some (.int a3), some (.ref a4), none] [] M1) z hz
      refine im_iconst 13 22 rfl rfl ?_
      exact im_end rfl (wp_ireturn 14 23 rfl rfl)
    · rw [if_neg h1] at hz
      cases hz

theorem sp_Z_dominates (G : gl_T) {a1 : Nat} {a2 : Int32} {a3 : Int32} {a4 : Nat} {M : mm_T} {y : Int32 × mm_T} (h : ff_Z_dominates a1 a2 a3 a4 M = some y) : sp_S mi_Z_dominates 8 154 G [.ref a1, .int a2, .int a3, .ref a4] M (sw_i y).1 (sw_i y).2 := sp_of mo_Z_dominates mw_Z_dominates (Or.inl (by decide +kernel)) rfl rfl (Or.inr ⟨_, rfl⟩) (ip_Z_dominates G a1 a2 a3 a4 M y h)

set_option maxRecDepth 100000 in
set_option maxHeartbeats 4000000 in
theorem ip_Z_immediateDominator (G : gl_T) (a1 : Nat) (a2 : Int32) (a3 : Nat) (M : mm_T) : im_I mi_Z_immediateDominator 8 153 G M sw_i (ff_Z_immediateDominator a1 a2 a3 M) 0 [some (.ref a1), some (.int a2), some (.ref a3), none] [] M := by
  unfold ff_Z_immediateDominator
  refine im_aload_n 0 0 rfl rfl ?_
  refine im_iconst 1 1 rfl rfl ?_
  refine im_aload_n 2 2 rfl rfl ?_
  refine im_iload_n 3 3 rfl rfl ?_
  refine im_cs (S := [.int (0 : Int32), .ref a3]) (so := (fun v => some (.int v))) (fun _ _ hv => cpV (fr' := 7) (lo' := 132) (i := 4) (As := [.int a2]) (S := [.int (0 : Int32), .ref a3]) (a := a1) (c := 10) rfl lk_Z_87 mw_D_immediateDominator mv_D_immediateDominator rfl ⟨by decide, rfl⟩ rfl rfl rfl (gd_some hv).1 (sp_D_immediateDominator G hv)) (fun x1 M1 => ?_) (fun E M1 hv z hz => ?_)
  · refine im_i2l 5 7 rfl ?_
    refine im_lastore 6 8 rfl (fun M2 => ?_)
    refine im_goto 7 9 15 rfl (by decide) ?_
    refine im_iconst 11 15 rfl rfl ?_
    exact im_end rfl (wp_ireturn 12 16 rfl rfl)
  · replace hz : (if E = "java/lang/IndexOutOfBoundsException" then (some ((1 : Int32), M1)) else (none)) = some z := hz
    by_cases h1 : E = "java/lang/IndexOutOfBoundsException"
    · rw [if_pos h1] at hz
      subst h1
      refine xpV (fr' := 7) (lo' := 132) (i := 4) (As := [.int a2]) (S := [.int (0 : Int32), .ref a3]) (a := a1) (c := 10) rfl lm_Z_87 mw_D_immediateDominator mv_D_immediateDominator rfl ⟨by decide, rfl⟩ rfl rfl rfl (gd_some hv).1 (sp_D_immediateDominator G hv) (tw_catch (n := 0) (i := 8) (len := 1) (j := 3) rfl (fun z hz => by rw [show (tableOf (mi_hh mi_Z_immediateDominator)).take 0 = [] from rfl] at hz; exact nomatch hz) (by decide) (by decide) (tb_m 1254 (by decide +kernel) rfl) (List.mem_of_getElem? (i := 2) (by decide +kernel)) rfl (Or.inl ⟨⟨3, rfl, rfl⟩, rfl⟩) rfl ?_)
      refine (?_ : im_I mi_Z_immediateDominator 8 153 G M sw_i (some ((1 : Int32), M1)) 13 [some (.ref a1), some (.int a2), some (.ref a3), none] [] M1) z hz
      refine im_iconst 9 13 rfl rfl ?_
      exact im_end rfl (wp_ireturn 10 14 rfl rfl)
    · rw [if_neg h1] at hz
      cases hz

theorem sp_Z_immediateDominator (G : gl_T) {a1 : Nat} {a2 : Int32} {a3 : Nat} {M : mm_T} {y : Int32 × mm_T} (h : ff_Z_immediateDominator a1 a2 a3 M = some y) : sp_S mi_Z_immediateDominator 8 153 G [.ref a1, .int a2, .ref a3] M (sw_i y).1 (sw_i y).2 := sp_of mo_Z_immediateDominator mw_Z_immediateDominator (Or.inl (by decide +kernel)) rfl rfl (Or.inr ⟨_, rfl⟩) (ip_Z_immediateDominator G a1 a2 a3 M y h)

set_option maxRecDepth 100000 in
set_option maxHeartbeats 4000000 in
theorem ip_Z_commonDominator (G : gl_T) (a1 : Nat) (a2 : Int32) (a3 : Int32) (a4 : Nat) (M : mm_T) : im_I mi_Z_commonDominator 8 154 G M sw_i (ff_Z_commonDominator a1 a2 a3 a4 M) 0 [some (.ref a1), some (.int a2), some (.int a3), some (.ref a4), none] [] M := by
  unfold ff_Z_commonDominator
  refine im_aload_n 0 0 rfl rfl ?_
  refine im_iconst 1 1 rfl rfl ?_
  refine im_aload_n 2 2 rfl rfl ?_
  refine im_iload_n 3 3 rfl rfl ?_
  refine im_iload_n 4 4 rfl rfl ?_
  refine im_cs (S := [.int (0 : Int32), .ref a4]) (so := (fun v => some (.int v))) (fun _ _ hv => cpV (fr' := 7) (lo' := 132) (i := 5) (As := [.int a2, .int a3]) (S := [.int (0 : Int32), .ref a4]) (a := a1) (c := 10) rfl lk_Z_90 mw_D_commonDominator mv_D_commonDominator rfl ⟨by decide, rfl⟩ rfl rfl rfl (gd_some hv).1 (sp_D_commonDominator G hv)) (fun x1 M1 => ?_) (fun E M1 hv z hz => ?_)
  · refine im_i2l 6 8 rfl ?_
    refine im_lastore 7 9 rfl (fun M2 => ?_)
    refine im_goto 8 10 17 rfl (by decide) ?_
    refine im_iconst 12 17 rfl rfl ?_
    exact im_end rfl (wp_ireturn 13 18 rfl rfl)
  · replace hz : (if E = "java/lang/IndexOutOfBoundsException" then (some ((1 : Int32), M1)) else (none)) = some z := hz
    by_cases h1 : E = "java/lang/IndexOutOfBoundsException"
    · rw [if_pos h1] at hz
      subst h1
      refine xpV (fr' := 7) (lo' := 132) (i := 5) (As := [.int a2, .int a3]) (S := [.int (0 : Int32), .ref a4]) (a := a1) (c := 10) rfl lm_Z_90 mw_D_commonDominator mv_D_commonDominator rfl ⟨by decide, rfl⟩ rfl rfl rfl (gd_some hv).1 (sp_D_commonDominator G hv) (tw_catch (n := 0) (i := 9) (len := 2) (j := 4) rfl (fun z hz => by rw [show (tableOf (mi_hh mi_Z_commonDominator)).take 0 = [] from rfl] at hz; exact nomatch hz) (by decide) (by decide) (tb_m 1254 (by decide +kernel) rfl) (List.mem_of_getElem? (i := 2) (by decide +kernel)) rfl (Or.inr ⟨rfl, rfl⟩) rfl ?_)
      refine (?_ : im_I mi_Z_commonDominator 8 154 G M sw_i (some ((1 : Int32), M1)) 15 [some (.ref a1), some (.int a2), some (.int a3), some (.ref a4), none] [] M1) z hz
      refine im_iconst 10 15 rfl rfl ?_
      exact im_end rfl (wp_ireturn 11 16 rfl rfl)
    · rw [if_neg h1] at hz
      cases hz

theorem sp_Z_commonDominator (G : gl_T) {a1 : Nat} {a2 : Int32} {a3 : Int32} {a4 : Nat} {M : mm_T} {y : Int32 × mm_T} (h : ff_Z_commonDominator a1 a2 a3 a4 M = some y) : sp_S mi_Z_commonDominator 8 154 G [.ref a1, .int a2, .int a3, .ref a4] M (sw_i y).1 (sw_i y).2 := sp_of mo_Z_commonDominator mw_Z_commonDominator (Or.inl (by decide +kernel)) rfl rfl (Or.inr ⟨_, rfl⟩) (ip_Z_commonDominator G a1 a2 a3 a4 M y h)

set_option maxRecDepth 100000 in
set_option maxHeartbeats 4000000 in
theorem ip_Z_loopSize (G : gl_T) (a1 : Nat) (a2 : Int32) (a3 : Nat) (M : mm_T) : im_I mi_Z_loopSize 8 153 G M sw_i (ff_Z_loopSize a1 a2 a3 M) 0 [some (.ref a1), some (.int a2), some (.ref a3), none] [] M := by
  unfold ff_Z_loopSize
  refine im_aload_n 0 0 rfl rfl ?_
  refine im_iconst 1 1 rfl rfl ?_
  refine im_aload_n 2 2 rfl rfl ?_
  refine im_iload_n 3 3 rfl rfl ?_
  refine im_cs (S := [.int (0 : Int32), .ref a3]) (so := (fun v => some (.int v))) (fun _ _ hv => cpV (fr' := 7) (lo' := 132) (i := 4) (As := [.int a2]) (S := [.int (0 : Int32), .ref a3]) (a := a1) (c := 10) rfl lk_Z_93 mw_D_loopSize mv_D_loopSize rfl ⟨by decide, rfl⟩ rfl rfl rfl (gd_some hv).1 (sp_D_loopSize G hv)) (fun x1 M1 => ?_) (fun E M1 hv z hz => ?_)
  · refine im_i2l 5 7 rfl ?_
    refine im_lastore 6 8 rfl (fun M2 => ?_)
    refine im_goto 7 9 15 rfl (by decide) ?_
    refine im_iconst 11 15 rfl rfl ?_
    exact im_end rfl (wp_ireturn 12 16 rfl rfl)
  · replace hz : (if E = "java/lang/IndexOutOfBoundsException" then (some ((1 : Int32), M1)) else (none)) = some z := hz
    by_cases h1 : E = "java/lang/IndexOutOfBoundsException"
    · rw [if_pos h1] at hz
      subst h1
      refine xpV (fr' := 7) (lo' := 132) (i := 4) (As := [.int a2]) (S := [.int (0 : Int32), .ref a3]) (a := a1) (c := 10) rfl lm_Z_93 mw_D_loopSize mv_D_loopSize rfl ⟨by decide, rfl⟩ rfl rfl rfl (gd_some hv).1 (sp_D_loopSize G hv) (tw_catch (n := 0) (i := 8) (len := 1) (j := 3) rfl (fun z hz => by rw [show (tableOf (mi_hh mi_Z_loopSize)).take 0 = [] from rfl] at hz; exact nomatch hz) (by decide) (by decide) (tb_m 1254 (by decide +kernel) rfl) (List.mem_of_getElem? (i := 2) (by decide +kernel)) rfl (Or.inl ⟨⟨3, rfl, rfl⟩, rfl⟩) rfl ?_)
      refine (?_ : im_I mi_Z_loopSize 8 153 G M sw_i (some ((1 : Int32), M1)) 13 [some (.ref a1), some (.int a2), some (.ref a3), none] [] M1) z hz
      refine im_iconst 9 13 rfl rfl ?_
      exact im_end rfl (wp_ireturn 10 14 rfl rfl)
    · rw [if_neg h1] at hz
      cases hz

theorem sp_Z_loopSize (G : gl_T) {a1 : Nat} {a2 : Int32} {a3 : Nat} {M : mm_T} {y : Int32 × mm_T} (h : ff_Z_loopSize a1 a2 a3 M = some y) : sp_S mi_Z_loopSize 8 153 G [.ref a1, .int a2, .ref a3] M (sw_i y).1 (sw_i y).2 := sp_of mo_Z_loopSize mw_Z_loopSize (Or.inl (by decide +kernel)) rfl rfl (Or.inr ⟨_, rfl⟩) (ip_Z_loopSize G a1 a2 a3 M y h)

set_option maxRecDepth 100000 in
set_option maxHeartbeats 4000000 in
theorem ip_Z_loopDepth (G : gl_T) (a1 : Nat) (a2 : Int32) (a3 : Nat) (M : mm_T) : im_I mi_Z_loopDepth 8 153 G M sw_i (ff_Z_loopDepth a1 a2 a3 M) 0 [some (.ref a1), some (.int a2), some (.ref a3), none] [] M := by
  unfold ff_Z_loopDepth
  refine im_aload_n 0 0 rfl rfl ?_
  refine im_iconst 1 1 rfl rfl ?_
  refine im_aload_n 2 2 rfl rfl ?_
  refine im_iload_n 3 3 rfl rfl ?_
  refine im_cs (S := [.int (0 : Int32), .ref a3]) (so := (fun v => some (.int v))) (fun _ _ hv => cpV (fr' := 7) (lo' := 132) (i := 4) (As := [.int a2]) (S := [.int (0 : Int32), .ref a3]) (a := a1) (c := 10) rfl lk_Z_96 mw_D_loopDepth mv_D_loopDepth rfl ⟨by decide, rfl⟩ rfl rfl rfl (gd_some hv).1 (sp_D_loopDepth G hv)) (fun x1 M1 => ?_) (fun E M1 hv z hz => ?_)
  · refine im_i2l 5 7 rfl ?_
    refine im_lastore 6 8 rfl (fun M2 => ?_)
    refine im_goto 7 9 15 rfl (by decide) ?_
    refine im_iconst 11 15 rfl rfl ?_
    exact im_end rfl (wp_ireturn 12 16 rfl rfl)
  · replace hz : (if E = "java/lang/IndexOutOfBoundsException" then (some ((1 : Int32), M1)) else (none)) = some z := hz
    by_cases h1 : E = "java/lang/IndexOutOfBoundsException"
    · rw [if_pos h1] at hz
      subst h1
      refine xpV (fr' := 7) (lo' := 132) (i := 4) (As := [.int a2]) (S := [.int (0 : Int32), .ref a3]) (a := a1) (c := 10) rfl lm_Z_96 mw_D_loopDepth mv_D_loopDepth rfl ⟨by decide, rfl⟩ rfl rfl rfl (gd_some hv).1 (sp_D_loopDepth G hv) (tw_catch (n := 0) (i := 8) (len := 1) (j := 3) rfl (fun z hz => by rw [show (tableOf (mi_hh mi_Z_loopDepth)).take 0 = [] from rfl] at hz; exact nomatch hz) (by decide) (by decide) (tb_m 1254 (by decide +kernel) rfl) (List.mem_of_getElem? (i := 2) (by decide +kernel)) rfl (Or.inl ⟨⟨3, rfl, rfl⟩, rfl⟩) rfl ?_)
      refine (?_ : im_I mi_Z_loopDepth 8 153 G M sw_i (some ((1 : Int32), M1)) 13 [some (.ref a1), some (.int a2), some (.ref a3), none] [] M1) z hz
      refine im_iconst 9 13 rfl rfl ?_
      exact im_end rfl (wp_ireturn 10 14 rfl rfl)
    · rw [if_neg h1] at hz
      cases hz

theorem sp_Z_loopDepth (G : gl_T) {a1 : Nat} {a2 : Int32} {a3 : Nat} {M : mm_T} {y : Int32 × mm_T} (h : ff_Z_loopDepth a1 a2 a3 M = some y) : sp_S mi_Z_loopDepth 8 153 G [.ref a1, .int a2, .ref a3] M (sw_i y).1 (sw_i y).2 := sp_of mo_Z_loopDepth mw_Z_loopDepth (Or.inl (by decide +kernel)) rfl rfl (Or.inr ⟨_, rfl⟩) (ip_Z_loopDepth G a1 a2 a3 M y h)

set_option maxRecDepth 100000 in
set_option maxHeartbeats 4000000 in
theorem ip_Z_constantAt (G : gl_T) (a1 : Nat) (a2 : Int32) (a3 : Int32) (a4 : Nat) (M : mm_T) : im_I mi_Z_constantAt 8 184 G M sw_i (ff_Z_constantAt a1 a2 a3 a4 M) 0 [some (.ref a1), some (.int a2), some (.int a3), some (.ref a4), none] [] M := by
  unfold ff_Z_constantAt
  refine im_aload_n 0 0 rfl rfl ?_
  refine im_iconst 1 1 rfl rfl ?_
  refine im_aload_n 2 2 rfl rfl ?_
  refine im_iload_n 3 3 rfl rfl ?_
  refine im_iload_n 4 4 rfl rfl ?_
  refine im_cs (S := [.int (0 : Int32), .ref a4]) (so := (fun v => some (.int v))) (fun _ _ hv => cpV (fr' := 7) (lo' := 162) (i := 5) (As := [.int a2, .int a3]) (S := [.int (0 : Int32), .ref a4]) (a := a1) (c := 10) rfl lk_Z_99 mw_D_constantAt mv_D_constantAt rfl ⟨by decide, rfl⟩ rfl rfl rfl (gd_some hv).1 (sp_D_constantAt G hv)) (fun x1 M1 => ?_) (fun E M1 hv z hz => ?_)
  · refine im_i2l 6 8 rfl ?_
    refine im_lastore 7 9 rfl (fun M2 => ?_)
    refine im_goto 8 10 21 rfl (by decide) ?_
    refine im_iconst 15 21 rfl rfl ?_
    exact im_end rfl (wp_ireturn 16 22 rfl rfl)
  · replace hz : (if E = "java/lang/IndexOutOfBoundsException" then (some ((1 : Int32), M1)) else (if E = "java/lang/IllegalArgumentException" then (some ((2 : Int32), M1)) else (none))) = some z := hz
    by_cases h2 : E = "java/lang/IndexOutOfBoundsException"
    · rw [if_pos h2] at hz
      subst h2
      refine xpV (fr' := 7) (lo' := 162) (i := 5) (As := [.int a2, .int a3]) (S := [.int (0 : Int32), .ref a4]) (a := a1) (c := 10) rfl lm_Z_99 mw_D_constantAt mv_D_constantAt rfl ⟨by decide, rfl⟩ rfl rfl rfl (gd_some hv).1 (sp_D_constantAt G hv) (tw_catch (n := 0) (i := 9) (len := 2) (j := 4) rfl (fun z hz => by rw [show (tableOf (mi_hh mi_Z_constantAt)).take 0 = [] from rfl] at hz; exact nomatch hz) (by decide) (by decide) (tb_m 1254 (by decide +kernel) rfl) (List.mem_of_getElem? (i := 2) (by decide +kernel)) rfl (Or.inr ⟨rfl, rfl⟩) rfl ?_)
      refine (?_ : im_I mi_Z_constantAt 8 184 G M sw_i (some ((1 : Int32), M1)) 15 [some (.ref a1), some (.int a2), some (.int a3), some (.ref a4), none] [] M1) z hz
      refine im_iconst 10 15 rfl rfl ?_
      exact im_end rfl (wp_ireturn 11 16 rfl rfl)
    · rw [if_neg h2] at hz
      by_cases h1 : E = "java/lang/IllegalArgumentException"
      · rw [if_pos h1] at hz
        subst h1
        refine xpV (fr' := 7) (lo' := 162) (i := 5) (As := [.int a2, .int a3]) (S := [.int (0 : Int32), .ref a4]) (a := a1) (c := 10) rfl lm_Z_99 mw_D_constantAt mv_D_constantAt rfl ⟨by decide, rfl⟩ rfl rfl rfl (gd_some hv).1 (sp_D_constantAt G hv) (tw_catch (n := 1) (i := 12) (len := 2) (j := 4) rfl (tk_Z_constantAt_1) (by decide) (by decide) (tb_m 1226 (by decide +kernel) rfl) (List.mem_of_getElem? (i := 1) (by decide +kernel)) rfl (Or.inr ⟨rfl, rfl⟩) rfl ?_)
        refine (?_ : im_I mi_Z_constantAt 8 184 G M sw_i (some ((2 : Int32), M1)) 19 [some (.ref a1), some (.int a2), some (.int a3), some (.ref a4), none] [] M1) z hz
        refine im_iconst 13 19 rfl rfl ?_
        exact im_end rfl (wp_ireturn 14 20 rfl rfl)
      · rw [if_neg h1] at hz
        cases hz

theorem sp_Z_constantAt (G : gl_T) {a1 : Nat} {a2 : Int32} {a3 : Int32} {a4 : Nat} {M : mm_T} {y : Int32 × mm_T} (h : ff_Z_constantAt a1 a2 a3 a4 M = some y) : sp_S mi_Z_constantAt 8 184 G [.ref a1, .int a2, .int a3, .ref a4] M (sw_i y).1 (sw_i y).2 := sp_of mo_Z_constantAt mw_Z_constantAt (Or.inl (by decide +kernel)) rfl rfl (Or.inr ⟨_, rfl⟩) (ip_Z_constantAt G a1 a2 a3 a4 M y h)

set_option maxRecDepth 100000 in
set_option maxHeartbeats 4000000 in
theorem ip_Z_constantOf (G : gl_T) (a1 : Nat) (a2 : Int32) (a3 : Nat) (M : mm_T) : im_I mi_Z_constantOf 8 183 G M sw_i (ff_Z_constantOf a1 a2 a3 M) 0 [some (.ref a1), some (.int a2), some (.ref a3), none] [] M := by
  unfold ff_Z_constantOf
  refine im_aload_n 0 0 rfl rfl ?_
  refine im_iconst 1 1 rfl rfl ?_
  refine im_aload_n 2 2 rfl rfl ?_
  refine im_iload_n 3 3 rfl rfl ?_
  refine im_cs (S := [.int (0 : Int32), .ref a3]) (so := (fun v => some (.int v))) (fun _ _ hv => cpV (fr' := 7) (lo' := 162) (i := 4) (As := [.int a2]) (S := [.int (0 : Int32), .ref a3]) (a := a1) (c := 10) rfl lk_Z_102 mw_D_constantOf mv_D_constantOf rfl ⟨by decide, rfl⟩ rfl rfl rfl (gd_some hv).1 (sp_D_constantOf G hv)) (fun x1 M1 => ?_) (fun E M1 hv z hz => ?_)
  · refine im_i2l 5 7 rfl ?_
    refine im_lastore 6 8 rfl (fun M2 => ?_)
    refine im_goto 7 9 15 rfl (by decide) ?_
    refine im_iconst 11 15 rfl rfl ?_
    exact im_end rfl (wp_ireturn 12 16 rfl rfl)
  · replace hz : (if E = "java/lang/IndexOutOfBoundsException" then (some ((1 : Int32), M1)) else (none)) = some z := hz
    by_cases h1 : E = "java/lang/IndexOutOfBoundsException"
    · rw [if_pos h1] at hz
      subst h1
      refine xpV (fr' := 7) (lo' := 162) (i := 4) (As := [.int a2]) (S := [.int (0 : Int32), .ref a3]) (a := a1) (c := 10) rfl lm_Z_102 mw_D_constantOf mv_D_constantOf rfl ⟨by decide, rfl⟩ rfl rfl rfl (gd_some hv).1 (sp_D_constantOf G hv) (tw_catch (n := 0) (i := 8) (len := 1) (j := 3) rfl (fun z hz => by rw [show (tableOf (mi_hh mi_Z_constantOf)).take 0 = [] from rfl] at hz; exact nomatch hz) (by decide) (by decide) (tb_m 1254 (by decide +kernel) rfl) (List.mem_of_getElem? (i := 2) (by decide +kernel)) rfl (Or.inl ⟨⟨3, rfl, rfl⟩, rfl⟩) rfl ?_)
      refine (?_ : im_I mi_Z_constantOf 8 183 G M sw_i (some ((1 : Int32), M1)) 13 [some (.ref a1), some (.int a2), some (.ref a3), none] [] M1) z hz
      refine im_iconst 9 13 rfl rfl ?_
      exact im_end rfl (wp_ireturn 10 14 rfl rfl)
    · rw [if_neg h1] at hz
      cases hz

theorem sp_Z_constantOf (G : gl_T) {a1 : Nat} {a2 : Int32} {a3 : Nat} {M : mm_T} {y : Int32 × mm_T} (h : ff_Z_constantOf a1 a2 a3 M = some y) : sp_S mi_Z_constantOf 8 183 G [.ref a1, .int a2, .ref a3] M (sw_i y).1 (sw_i y).2 := sp_of mo_Z_constantOf mw_Z_constantOf (Or.inl (by decide +kernel)) rfl rfl (Or.inr ⟨_, rfl⟩) (ip_Z_constantOf G a1 a2 a3 M y h)

set_option maxRecDepth 100000 in
set_option maxHeartbeats 4000000 in
theorem ip_Z_runSteps (G : gl_T) (a1 : Nat) (a2 : Int32) (a3 : Nat) (M : mm_T) : im_I mi_Z_runSteps 8 153 G M sw_i (ff_Z_runSteps a1 a2 a3 M) 0 [some (.ref a1), some (.int a2), some (.ref a3), none] [] M := by
  unfold ff_Z_runSteps
  refine im_aload_n 0 0 rfl rfl ?_
  refine im_iconst 1 1 rfl rfl ?_
  refine im_aload_n 2 2 rfl rfl ?_
  refine im_iload_n 3 3 rfl rfl ?_
  refine im_cs (S := [.int (0 : Int32), .ref a3]) (so := (fun v => some (.int v))) (fun _ _ hv => cpV (fr' := 7) (lo' := 132) (i := 4) (As := [.int a2]) (S := [.int (0 : Int32), .ref a3]) (a := a1) (c := 10) rfl lk_Z_105 mw_D_runSteps mv_D_runSteps rfl ⟨by decide, rfl⟩ rfl rfl rfl (gd_some hv).1 (sp_D_runSteps G hv)) (fun x1 M1 => ?_) (fun E M1 hv z hz => ?_)
  · refine im_i2l 5 7 rfl ?_
    refine im_lastore 6 8 rfl (fun M2 => ?_)
    refine im_goto 7 9 15 rfl (by decide) ?_
    refine im_iconst 11 15 rfl rfl ?_
    exact im_end rfl (wp_ireturn 12 16 rfl rfl)
  · replace hz : (if E = "java/lang/IllegalArgumentException" then (some ((1 : Int32), M1)) else (none)) = some z := hz
    by_cases h1 : E = "java/lang/IllegalArgumentException"
    · rw [if_pos h1] at hz
      subst h1
      refine xpV (fr' := 7) (lo' := 132) (i := 4) (As := [.int a2]) (S := [.int (0 : Int32), .ref a3]) (a := a1) (c := 10) rfl lm_Z_105 mw_D_runSteps mv_D_runSteps rfl ⟨by decide, rfl⟩ rfl rfl rfl (gd_some hv).1 (sp_D_runSteps G hv) (tw_catch (n := 0) (i := 8) (len := 1) (j := 3) rfl (fun z hz => by rw [show (tableOf (mi_hh mi_Z_runSteps)).take 0 = [] from rfl] at hz; exact nomatch hz) (by decide) (by decide) (tb_m 1226 (by decide +kernel) rfl) (List.mem_of_getElem? (i := 1) (by decide +kernel)) rfl (Or.inl ⟨⟨3, rfl, rfl⟩, rfl⟩) rfl ?_)
      refine (?_ : im_I mi_Z_runSteps 8 153 G M sw_i (some ((1 : Int32), M1)) 13 [some (.ref a1), some (.int a2), some (.ref a3), none] [] M1) z hz
      refine im_iconst 9 13 rfl rfl ?_
      exact im_end rfl (wp_ireturn 10 14 rfl rfl)
    · rw [if_neg h1] at hz
      cases hz

theorem sp_Z_runSteps (G : gl_T) {a1 : Nat} {a2 : Int32} {a3 : Nat} {M : mm_T} {y : Int32 × mm_T} (h : ff_Z_runSteps a1 a2 a3 M = some y) : sp_S mi_Z_runSteps 8 153 G [.ref a1, .int a2, .ref a3] M (sw_i y).1 (sw_i y).2 := sp_of mo_Z_runSteps mw_Z_runSteps (Or.inl (by decide +kernel)) rfl rfl (Or.inr ⟨_, rfl⟩) (ip_Z_runSteps G a1 a2 a3 M y h)

set_option maxRecDepth 100000 in
set_option maxHeartbeats 4000000 in
theorem ip_Z_runEnds (G : gl_T) (a1 : Nat) (a2 : Int32) (a3 : Nat) (M : mm_T) : im_I mi_Z_runEnds 8 153 G M sw_i (ff_Z_runEnds a1 a2 a3 M) 0 [some (.ref a1), some (.int a2), some (.ref a3), none] [] M := by
  unfold ff_Z_runEnds
  refine im_aload_n 0 0 rfl rfl ?_
  refine im_iconst 1 1 rfl rfl ?_
  refine im_aload_n 2 2 rfl rfl ?_
  refine im_iload_n 3 3 rfl rfl ?_
  refine im_cs (S := [.int (0 : Int32), .ref a3]) (so := (fun v => some (.int v))) (fun _ _ hv => cpV (fr' := 7) (lo' := 132) (i := 4) (As := [.int a2]) (S := [.int (0 : Int32), .ref a3]) (a := a1) (c := 10) rfl lk_Z_108 mw_D_runEnds mv_D_runEnds rfl ⟨by decide, rfl⟩ rfl rfl rfl (gd_some hv).1 (sp_D_runEnds G hv)) (fun x1 M1 => ?_) (fun E M1 hv z hz => ?_)
  · refine im_jp (fun j15 => ∀ (x2 : Int64), im_I mi_Z_runEnds 8 153 G M sw_i (j15 x2) 15 [none, none, none, none] [.long x2, .int (0 : Int32), .ref a3] M1) ?_ (fun j15 hj15 => ?_)
    · intro x2
      show im_I mi_Z_runEnds 8 153 G M sw_i (_) 15 [none, none, none, none] [.long x2, .int (0 : Int32), .ref a3] M1
      refine im_lastore 9 15 rfl (fun M2 => ?_)
      refine im_goto 10 16 22 rfl (by decide) ?_
      refine im_iconst 14 22 rfl rfl ?_
      exact im_end rfl (wp_ireturn 15 23 rfl rfl)
    refine im_if_eq 5 7 14 rfl (by decide) ?_ ?_
    · refine im_lconst 8 14 rfl rfl ?_
      exact im_less _ (by simp [lv_le]) (hj15 (0 : Int64))
    · refine im_lconst 6 10 rfl rfl ?_
      refine im_goto 7 11 15 rfl (by decide) ?_
      exact im_less _ (by simp [lv_le]) (hj15 (1 : Int64))
  · replace hz : (if E = "java/lang/IllegalArgumentException" then (some ((1 : Int32), M1)) else (none)) = some z := hz
    by_cases h1 : E = "java/lang/IllegalArgumentException"
    · rw [if_pos h1] at hz
      subst h1
      refine xpV (fr' := 7) (lo' := 132) (i := 4) (As := [.int a2]) (S := [.int (0 : Int32), .ref a3]) (a := a1) (c := 10) rfl lm_Z_108 mw_D_runEnds mv_D_runEnds rfl ⟨by decide, rfl⟩ rfl rfl rfl (gd_some hv).1 (sp_D_runEnds G hv) (tw_catch (n := 0) (i := 11) (len := 1) (j := 3) rfl (fun z hz => by rw [show (tableOf (mi_hh mi_Z_runEnds)).take 0 = [] from rfl] at hz; exact nomatch hz) (by decide) (by decide) (tb_m 1226 (by decide +kernel) rfl) (List.mem_of_getElem? (i := 1) (by decide +kernel)) rfl (Or.inl ⟨⟨3, rfl, rfl⟩, rfl⟩) rfl ?_)
      refine (?_ : im_I mi_Z_runEnds 8 153 G M sw_i (some ((1 : Int32), M1)) 20 [some (.ref a1), some (.int a2), some (.ref a3), none] [] M1) z hz
      refine im_iconst 12 20 rfl rfl ?_
      exact im_end rfl (wp_ireturn 13 21 rfl rfl)
    · rw [if_neg h1] at hz
      cases hz

theorem sp_Z_runEnds (G : gl_T) {a1 : Nat} {a2 : Int32} {a3 : Nat} {M : mm_T} {y : Int32 × mm_T} (h : ff_Z_runEnds a1 a2 a3 M = some y) : sp_S mi_Z_runEnds 8 153 G [.ref a1, .int a2, .ref a3] M (sw_i y).1 (sw_i y).2 := sp_of mo_Z_runEnds mw_Z_runEnds (Or.inl (by decide +kernel)) rfl rfl (Or.inr ⟨_, rfl⟩) (ip_Z_runEnds G a1 a2 a3 M y h)

set_option maxRecDepth 100000 in
set_option maxHeartbeats 4000000 in
theorem ip_Z_valueAfter (G : gl_T) (a1 : Nat) (a2 : Int32) (a3 : Int32) (a4 : Nat) (M : mm_T) : im_I mi_Z_valueAfter 8 154 G M sw_i (ff_Z_valueAfter a1 a2 a3 a4 M) 0 [some (.ref a1), some (.int a2), some (.int a3), some (.ref a4), none] [] M := by
  unfold ff_Z_valueAfter
  refine im_aload_n 0 0 rfl rfl ?_
  refine im_iconst 1 1 rfl rfl ?_
  refine im_aload_n 2 2 rfl rfl ?_
  refine im_iload_n 3 3 rfl rfl ?_
  refine im_iload_n 4 4 rfl rfl ?_
  refine im_cs (S := [.int (0 : Int32), .ref a4]) (so := (fun v => some (.int v))) (fun _ _ hv => cpV (fr' := 7) (lo' := 132) (i := 5) (As := [.int a2, .int a3]) (S := [.int (0 : Int32), .ref a4]) (a := a1) (c := 10) rfl lk_Z_111 mw_D_valueAfter mv_D_valueAfter rfl ⟨by decide, rfl⟩ rfl rfl rfl (gd_some hv).1 (sp_D_valueAfter G hv)) (fun x1 M1 => ?_) (fun E M1 hv z hz => ?_)
  · refine im_i2l 6 8 rfl ?_
    refine im_lastore 7 9 rfl (fun M2 => ?_)
    refine im_goto 8 10 17 rfl (by decide) ?_
    refine im_iconst 12 17 rfl rfl ?_
    exact im_end rfl (wp_ireturn 13 18 rfl rfl)
  · replace hz : (if E = "java/lang/IllegalArgumentException" then (some ((1 : Int32), M1)) else (none)) = some z := hz
    by_cases h1 : E = "java/lang/IllegalArgumentException"
    · rw [if_pos h1] at hz
      subst h1
      refine xpV (fr' := 7) (lo' := 132) (i := 5) (As := [.int a2, .int a3]) (S := [.int (0 : Int32), .ref a4]) (a := a1) (c := 10) rfl lm_Z_111 mw_D_valueAfter mv_D_valueAfter rfl ⟨by decide, rfl⟩ rfl rfl rfl (gd_some hv).1 (sp_D_valueAfter G hv) (tw_catch (n := 0) (i := 9) (len := 2) (j := 4) rfl (fun z hz => by rw [show (tableOf (mi_hh mi_Z_valueAfter)).take 0 = [] from rfl] at hz; exact nomatch hz) (by decide) (by decide) (tb_m 1226 (by decide +kernel) rfl) (List.mem_of_getElem? (i := 1) (by decide +kernel)) rfl (Or.inr ⟨rfl, rfl⟩) rfl ?_)
      refine (?_ : im_I mi_Z_valueAfter 8 154 G M sw_i (some ((1 : Int32), M1)) 15 [some (.ref a1), some (.int a2), some (.int a3), some (.ref a4), none] [] M1) z hz
      refine im_iconst 10 15 rfl rfl ?_
      exact im_end rfl (wp_ireturn 11 16 rfl rfl)
    · rw [if_neg h1] at hz
      cases hz

theorem sp_Z_valueAfter (G : gl_T) {a1 : Nat} {a2 : Int32} {a3 : Int32} {a4 : Nat} {M : mm_T} {y : Int32 × mm_T} (h : ff_Z_valueAfter a1 a2 a3 a4 M = some y) : sp_S mi_Z_valueAfter 8 154 G [.ref a1, .int a2, .int a3, .ref a4] M (sw_i y).1 (sw_i y).2 := sp_of mo_Z_valueAfter mw_Z_valueAfter (Or.inl (by decide +kernel)) rfl rfl (Or.inr ⟨_, rfl⟩) (ip_Z_valueAfter G a1 a2 a3 a4 M y h)

set_option maxRecDepth 100000 in
set_option maxHeartbeats 4000000 in
theorem ip_Z_lastShown (G : gl_T) (a1 : Nat) (a2 : Int32) (a3 : Nat) (M : mm_T) : im_I mi_Z_lastShown 8 153 G M sw_i (ff_Z_lastShown a1 a2 a3 M) 0 [some (.ref a1), some (.int a2), some (.ref a3), none] [] M := by
  unfold ff_Z_lastShown
  refine im_aload_n 0 0 rfl rfl ?_
  refine im_iconst 1 1 rfl rfl ?_
  refine im_aload_n 2 2 rfl rfl ?_
  refine im_iload_n 3 3 rfl rfl ?_
  refine im_cs (S := [.int (0 : Int32), .ref a3]) (so := (fun v => some (.int v))) (fun _ _ hv => cpV (fr' := 7) (lo' := 132) (i := 4) (As := [.int a2]) (S := [.int (0 : Int32), .ref a3]) (a := a1) (c := 10) rfl lk_Z_114 mw_D_lastShown mv_D_lastShown rfl ⟨by decide, rfl⟩ rfl rfl rfl (gd_some hv).1 (sp_D_lastShown G hv)) (fun x1 M1 => ?_) (fun E M1 hv z hz => ?_)
  · refine im_i2l 5 7 rfl ?_
    refine im_lastore 6 8 rfl (fun M2 => ?_)
    refine im_goto 7 9 15 rfl (by decide) ?_
    refine im_iconst 11 15 rfl rfl ?_
    exact im_end rfl (wp_ireturn 12 16 rfl rfl)
  · replace hz : (if E = "java/lang/IllegalArgumentException" then (some ((1 : Int32), M1)) else (none)) = some z := hz
    by_cases h1 : E = "java/lang/IllegalArgumentException"
    · rw [if_pos h1] at hz
      subst h1
      refine xpV (fr' := 7) (lo' := 132) (i := 4) (As := [.int a2]) (S := [.int (0 : Int32), .ref a3]) (a := a1) (c := 10) rfl lm_Z_114 mw_D_lastShown mv_D_lastShown rfl ⟨by decide, rfl⟩ rfl rfl rfl (gd_some hv).1 (sp_D_lastShown G hv) (tw_catch (n := 0) (i := 8) (len := 1) (j := 3) rfl (fun z hz => by rw [show (tableOf (mi_hh mi_Z_lastShown)).take 0 = [] from rfl] at hz; exact nomatch hz) (by decide) (by decide) (tb_m 1226 (by decide +kernel) rfl) (List.mem_of_getElem? (i := 1) (by decide +kernel)) rfl (Or.inl ⟨⟨3, rfl, rfl⟩, rfl⟩) rfl ?_)
      refine (?_ : im_I mi_Z_lastShown 8 153 G M sw_i (some ((1 : Int32), M1)) 13 [some (.ref a1), some (.int a2), some (.ref a3), none] [] M1) z hz
      refine im_iconst 9 13 rfl rfl ?_
      exact im_end rfl (wp_ireturn 10 14 rfl rfl)
    · rw [if_neg h1] at hz
      cases hz

theorem sp_Z_lastShown (G : gl_T) {a1 : Nat} {a2 : Int32} {a3 : Nat} {M : mm_T} {y : Int32 × mm_T} (h : ff_Z_lastShown a1 a2 a3 M = some y) : sp_S mi_Z_lastShown 8 153 G [.ref a1, .int a2, .ref a3] M (sw_i y).1 (sw_i y).2 := sp_of mo_Z_lastShown mw_Z_lastShown (Or.inl (by decide +kernel)) rfl rfl (Or.inr ⟨_, rfl⟩) (ip_Z_lastShown G a1 a2 a3 M y h)

set_option maxRecDepth 100000 in
set_option maxHeartbeats 4000000 in
theorem ip_Z_visits (G : gl_T) (a1 : Nat) (a2 : Int32) (a3 : Int32) (a4 : Nat) (M : mm_T) : im_I mi_Z_visits 8 154 G M sw_i (ff_Z_visits a1 a2 a3 a4 M) 0 [some (.ref a1), some (.int a2), some (.int a3), some (.ref a4), none] [] M := by
  unfold ff_Z_visits
  refine im_aload_n 0 0 rfl rfl ?_
  refine im_iconst 1 1 rfl rfl ?_
  refine im_aload_n 2 2 rfl rfl ?_
  refine im_iload_n 3 3 rfl rfl ?_
  refine im_iload_n 4 4 rfl rfl ?_
  refine im_cs (S := [.int (0 : Int32), .ref a4]) (so := (fun v => some (.int v))) (fun _ _ hv => cpV (fr' := 7) (lo' := 132) (i := 5) (As := [.int a2, .int a3]) (S := [.int (0 : Int32), .ref a4]) (a := a1) (c := 10) rfl lk_Z_117 mw_D_visits mv_D_visits rfl ⟨by decide, rfl⟩ rfl rfl rfl (gd_some hv).1 (sp_D_visits G hv)) (fun x1 M1 => ?_) (fun E M1 hv z hz => ?_)
  · refine im_i2l 6 8 rfl ?_
    refine im_lastore 7 9 rfl (fun M2 => ?_)
    refine im_goto 8 10 21 rfl (by decide) ?_
    refine im_iconst 15 21 rfl rfl ?_
    exact im_end rfl (wp_ireturn 16 22 rfl rfl)
  · replace hz : (if E = "java/lang/IndexOutOfBoundsException" then (some ((1 : Int32), M1)) else (if E = "java/lang/IllegalArgumentException" then (some ((2 : Int32), M1)) else (none))) = some z := hz
    by_cases h2 : E = "java/lang/IndexOutOfBoundsException"
    · rw [if_pos h2] at hz
      subst h2
      refine xpV (fr' := 7) (lo' := 132) (i := 5) (As := [.int a2, .int a3]) (S := [.int (0 : Int32), .ref a4]) (a := a1) (c := 10) rfl lm_Z_117 mw_D_visits mv_D_visits rfl ⟨by decide, rfl⟩ rfl rfl rfl (gd_some hv).1 (sp_D_visits G hv) (tw_catch (n := 0) (i := 9) (len := 2) (j := 4) rfl (fun z hz => by rw [show (tableOf (mi_hh mi_Z_visits)).take 0 = [] from rfl] at hz; exact nomatch hz) (by decide) (by decide) (tb_m 1254 (by decide +kernel) rfl) (List.mem_of_getElem? (i := 2) (by decide +kernel)) rfl (Or.inr ⟨rfl, rfl⟩) rfl ?_)
      refine (?_ : im_I mi_Z_visits 8 154 G M sw_i (some ((1 : Int32), M1)) 15 [some (.ref a1), some (.int a2), some (.int a3), some (.ref a4), none] [] M1) z hz
      refine im_iconst 10 15 rfl rfl ?_
      exact im_end rfl (wp_ireturn 11 16 rfl rfl)
    · rw [if_neg h2] at hz
      by_cases h1 : E = "java/lang/IllegalArgumentException"
      · rw [if_pos h1] at hz
        subst h1
        refine xpV (fr' := 7) (lo' := 132) (i := 5) (As := [.int a2, .int a3]) (S := [.int (0 : Int32), .ref a4]) (a := a1) (c := 10) rfl lm_Z_117 mw_D_visits mv_D_visits rfl ⟨by decide, rfl⟩ rfl rfl rfl (gd_some hv).1 (sp_D_visits G hv) (tw_catch (n := 1) (i := 12) (len := 2) (j := 4) rfl (tk_Z_visits_1) (by decide) (by decide) (tb_m 1226 (by decide +kernel) rfl) (List.mem_of_getElem? (i := 1) (by decide +kernel)) rfl (Or.inr ⟨rfl, rfl⟩) rfl ?_)
        refine (?_ : im_I mi_Z_visits 8 154 G M sw_i (some ((2 : Int32), M1)) 19 [some (.ref a1), some (.int a2), some (.int a3), some (.ref a4), none] [] M1) z hz
        refine im_iconst 13 19 rfl rfl ?_
        exact im_end rfl (wp_ireturn 14 20 rfl rfl)
      · rw [if_neg h1] at hz
        cases hz

theorem sp_Z_visits (G : gl_T) {a1 : Nat} {a2 : Int32} {a3 : Int32} {a4 : Nat} {M : mm_T} {y : Int32 × mm_T} (h : ff_Z_visits a1 a2 a3 a4 M = some y) : sp_S mi_Z_visits 8 154 G [.ref a1, .int a2, .int a3, .ref a4] M (sw_i y).1 (sw_i y).2 := sp_of mo_Z_visits mw_Z_visits (Or.inl (by decide +kernel)) rfl rfl (Or.inr ⟨_, rfl⟩) (ip_Z_visits G a1 a2 a3 a4 M y h)

set_option maxRecDepth 100000 in
set_option maxHeartbeats 4000000 in
theorem ip_Z_insertSet (G : gl_T) (a1 : Nat) (a2 : Int32) (a3 : Int32) (a4 : Int32) (a5 : Int32) (a6 : Nat) (M : mm_T) : im_I mi_Z_insertSet 8 137 G M sw_i (ff_Z_insertSet a1 a2 a3 a4 a5 a6 M) 0 [some (.ref a1), some (.int a2), some (.int a3), some (.int a4), some (.int a5), some (.ref a6), none] [] M := by
  unfold ff_Z_insertSet
  refine im_aload 0 0 rfl rfl ?_
  refine im_iconst 1 2 rfl rfl ?_
  refine im_aload_n 2 3 rfl rfl ?_
  refine im_iload_n 3 4 rfl rfl ?_
  refine im_iload_n 4 5 rfl rfl ?_
  refine im_iload_n 5 6 rfl rfl ?_
  refine im_iload 6 7 rfl rfl ?_
  refine im_cs (S := [.int (0 : Int32), .ref a6]) (so := (fun v => some (.int v))) (fun _ _ hv => cpV (fr' := 7) (lo' := 113) (i := 7) (As := [.int a2, .int a3, .int a4, .int a5]) (S := [.int (0 : Int32), .ref a6]) (a := a1) (c := 10) rfl lk_Z_120 mw_D_insertSet mv_D_insertSet rfl ⟨by decide, rfl⟩ rfl rfl rfl (gd_some hv).1 (sp_D_insertSet G hv)) (fun x1 M1 => ?_) (fun E M1 hv z hz => ?_)
  · refine im_i2l 8 12 rfl ?_
    refine im_lastore 9 13 rfl (fun M2 => ?_)
    refine im_goto 10 14 29 rfl (by decide) ?_
    refine im_iconst 20 29 rfl rfl ?_
    exact im_end rfl (wp_ireturn 21 30 rfl rfl)
  · replace hz : (if E = "java/lang/IndexOutOfBoundsException" then (some ((1 : Int32), M1)) else (if E = "java/lang/IllegalArgumentException" then (some ((2 : Int32), M1)) else (if E = "java/lang/IllegalStateException" then (some ((3 : Int32), M1)) else (none)))) = some z := hz
    by_cases h3 : E = "java/lang/IndexOutOfBoundsException"
    · rw [if_pos h3] at hz
      subst h3
      refine xpV (fr' := 7) (lo' := 113) (i := 7) (As := [.int a2, .int a3, .int a4, .int a5]) (S := [.int (0 : Int32), .ref a6]) (a := a1) (c := 10) rfl lm_Z_120 mw_D_insertSet mv_D_insertSet rfl ⟨by decide, rfl⟩ rfl rfl rfl (gd_some hv).1 (sp_D_insertSet G hv) (tw_catch (n := 0) (i := 11) (len := 2) (j := 6) rfl (fun z hz => by rw [show (tableOf (mi_hh mi_Z_insertSet)).take 0 = [] from rfl] at hz; exact nomatch hz) (by decide) (by decide) (tb_m 1254 (by decide +kernel) rfl) (List.mem_of_getElem? (i := 2) (by decide +kernel)) rfl (Or.inr ⟨rfl, rfl⟩) rfl ?_)
      refine (?_ : im_I mi_Z_insertSet 8 137 G M sw_i (some ((1 : Int32), M1)) 19 [some (.ref a1), some (.int a2), some (.int a3), some (.int a4), some (.int a5), some (.ref a6), none] [] M1) z hz
      refine im_iconst 12 19 rfl rfl ?_
      exact im_end rfl (wp_ireturn 13 20 rfl rfl)
    · rw [if_neg h3] at hz
      by_cases h2 : E = "java/lang/IllegalArgumentException"
      · rw [if_pos h2] at hz
        subst h2
        refine xpV (fr' := 7) (lo' := 113) (i := 7) (As := [.int a2, .int a3, .int a4, .int a5]) (S := [.int (0 : Int32), .ref a6]) (a := a1) (c := 10) rfl lm_Z_120 mw_D_insertSet mv_D_insertSet rfl ⟨by decide, rfl⟩ rfl rfl rfl (gd_some hv).1 (sp_D_insertSet G hv) (tw_catch (n := 1) (i := 14) (len := 2) (j := 6) rfl (tk_Z_insertSet_1) (by decide) (by decide) (tb_m 1226 (by decide +kernel) rfl) (List.mem_of_getElem? (i := 1) (by decide +kernel)) rfl (Or.inr ⟨rfl, rfl⟩) rfl ?_)
        refine (?_ : im_I mi_Z_insertSet 8 137 G M sw_i (some ((2 : Int32), M1)) 23 [some (.ref a1), some (.int a2), some (.int a3), some (.int a4), some (.int a5), some (.ref a6), none] [] M1) z hz
        refine im_iconst 15 23 rfl rfl ?_
        exact im_end rfl (wp_ireturn 16 24 rfl rfl)
      · rw [if_neg h2] at hz
        by_cases h1 : E = "java/lang/IllegalStateException"
        · rw [if_pos h1] at hz
          subst h1
          refine xpV (fr' := 7) (lo' := 113) (i := 7) (As := [.int a2, .int a3, .int a4, .int a5]) (S := [.int (0 : Int32), .ref a6]) (a := a1) (c := 10) rfl lm_Z_120 mw_D_insertSet mv_D_insertSet rfl ⟨by decide, rfl⟩ rfl rfl rfl (gd_some hv).1 (sp_D_insertSet G hv) (tw_catch (n := 2) (i := 17) (len := 2) (j := 6) rfl (tk_Z_insertSet_2) (by decide) (by decide) (tb_m 1145 (by decide +kernel) rfl) (List.mem_of_getElem? (i := 0) (by decide +kernel)) rfl (Or.inr ⟨rfl, rfl⟩) rfl ?_)
          refine (?_ : im_I mi_Z_insertSet 8 137 G M sw_i (some ((3 : Int32), M1)) 27 [some (.ref a1), some (.int a2), some (.int a3), some (.int a4), some (.int a5), some (.ref a6), none] [] M1) z hz
          refine im_iconst 18 27 rfl rfl ?_
          exact im_end rfl (wp_ireturn 19 28 rfl rfl)
        · rw [if_neg h1] at hz
          cases hz

theorem sp_Z_insertSet (G : gl_T) {a1 : Nat} {a2 : Int32} {a3 : Int32} {a4 : Int32} {a5 : Int32} {a6 : Nat} {M : mm_T} {y : Int32 × mm_T} (h : ff_Z_insertSet a1 a2 a3 a4 a5 a6 M = some y) : sp_S mi_Z_insertSet 8 137 G [.ref a1, .int a2, .int a3, .int a4, .int a5, .ref a6] M (sw_i y).1 (sw_i y).2 := sp_of mo_Z_insertSet mw_Z_insertSet (Or.inl (by decide +kernel)) rfl rfl (Or.inr ⟨_, rfl⟩) (ip_Z_insertSet G a1 a2 a3 a4 a5 a6 M y h)

set_option maxRecDepth 100000 in
set_option maxHeartbeats 4000000 in
theorem ip_Z_insertCalc (G : gl_T) (a1 : Nat) (a2 : Int32) (a3 : Int32) (a4 : Int32) (a5 : Int32) (a6 : Int32) (a7 : Int32) (a8 : Nat) (M : mm_T) : im_I mi_Z_insertCalc 8 139 G M sw_i (ff_Z_insertCalc a1 a2 a3 a4 a5 a6 a7 a8 M) 0 [some (.ref a1), some (.int a2), some (.int a3), some (.int a4), some (.int a5), some (.int a6), some (.int a7), some (.ref a8), none] [] M := by
  unfold ff_Z_insertCalc
  refine im_aload 0 0 rfl rfl ?_
  refine im_iconst 1 2 rfl rfl ?_
  refine im_aload_n 2 3 rfl rfl ?_
  refine im_iload_n 3 4 rfl rfl ?_
  refine im_iload_n 4 5 rfl rfl ?_
  refine im_iload_n 5 6 rfl rfl ?_
  refine im_iload 6 7 rfl rfl ?_
  refine im_iload 7 9 rfl rfl ?_
  refine im_iload 8 11 rfl rfl ?_
  refine im_cs (S := [.int (0 : Int32), .ref a8]) (so := (fun v => some (.int v))) (fun _ _ hv => cpV (fr' := 7) (lo' := 113) (i := 9) (As := [.int a2, .int a3, .int a4, .int a5, .int a6, .int a7]) (S := [.int (0 : Int32), .ref a8]) (a := a1) (c := 10) rfl lk_Z_124 mw_D_insertCalc mv_D_insertCalc rfl ⟨by decide, rfl⟩ rfl rfl rfl (gd_some hv).1 (sp_D_insertCalc G hv)) (fun x1 M1 => ?_) (fun E M1 hv z hz => ?_)
  · refine im_i2l 10 16 rfl ?_
    refine im_lastore 11 17 rfl (fun M2 => ?_)
    refine im_goto 12 18 33 rfl (by decide) ?_
    refine im_iconst 22 33 rfl rfl ?_
    exact im_end rfl (wp_ireturn 23 34 rfl rfl)
  · replace hz : (if E = "java/lang/IndexOutOfBoundsException" then (some ((1 : Int32), M1)) else (if E = "java/lang/IllegalArgumentException" then (some ((2 : Int32), M1)) else (if E = "java/lang/IllegalStateException" then (some ((3 : Int32), M1)) else (none)))) = some z := hz
    by_cases h3 : E = "java/lang/IndexOutOfBoundsException"
    · rw [if_pos h3] at hz
      subst h3
      refine xpV (fr' := 7) (lo' := 113) (i := 9) (As := [.int a2, .int a3, .int a4, .int a5, .int a6, .int a7]) (S := [.int (0 : Int32), .ref a8]) (a := a1) (c := 10) rfl lm_Z_124 mw_D_insertCalc mv_D_insertCalc rfl ⟨by decide, rfl⟩ rfl rfl rfl (gd_some hv).1 (sp_D_insertCalc G hv) (tw_catch (n := 0) (i := 13) (len := 2) (j := 8) rfl (fun z hz => by rw [show (tableOf (mi_hh mi_Z_insertCalc)).take 0 = [] from rfl] at hz; exact nomatch hz) (by decide) (by decide) (tb_m 1254 (by decide +kernel) rfl) (List.mem_of_getElem? (i := 2) (by decide +kernel)) rfl (Or.inr ⟨rfl, rfl⟩) rfl ?_)
      refine (?_ : im_I mi_Z_insertCalc 8 139 G M sw_i (some ((1 : Int32), M1)) 23 [some (.ref a1), some (.int a2), some (.int a3), some (.int a4), some (.int a5), some (.int a6), some (.int a7), some (.ref a8), none] [] M1) z hz
      refine im_iconst 14 23 rfl rfl ?_
      exact im_end rfl (wp_ireturn 15 24 rfl rfl)
    · rw [if_neg h3] at hz
      by_cases h2 : E = "java/lang/IllegalArgumentException"
      · rw [if_pos h2] at hz
        subst h2
        refine xpV (fr' := 7) (lo' := 113) (i := 9) (As := [.int a2, .int a3, .int a4, .int a5, .int a6, .int a7]) (S := [.int (0 : Int32), .ref a8]) (a := a1) (c := 10) rfl lm_Z_124 mw_D_insertCalc mv_D_insertCalc rfl ⟨by decide, rfl⟩ rfl rfl rfl (gd_some hv).1 (sp_D_insertCalc G hv) (tw_catch (n := 1) (i := 16) (len := 2) (j := 8) rfl (tk_Z_insertCalc_1) (by decide) (by decide) (tb_m 1226 (by decide +kernel) rfl) (List.mem_of_getElem? (i := 1) (by decide +kernel)) rfl (Or.inr ⟨rfl, rfl⟩) rfl ?_)
        refine (?_ : im_I mi_Z_insertCalc 8 139 G M sw_i (some ((2 : Int32), M1)) 27 [some (.ref a1), some (.int a2), some (.int a3), some (.int a4), some (.int a5), some (.int a6), some (.int a7), some (.ref a8), none] [] M1) z hz
        refine im_iconst 17 27 rfl rfl ?_
        exact im_end rfl (wp_ireturn 18 28 rfl rfl)
      · rw [if_neg h2] at hz
        by_cases h1 : E = "java/lang/IllegalStateException"
        · rw [if_pos h1] at hz
          subst h1
          refine xpV (fr' := 7) (lo' := 113) (i := 9) (As := [.int a2, .int a3, .int a4, .int a5, .int a6, .int a7]) (S := [.int (0 : Int32), .ref a8]) (a := a1) (c := 10) rfl lm_Z_124 mw_D_insertCalc mv_D_insertCalc rfl ⟨by decide, rfl⟩ rfl rfl rfl (gd_some hv).1 (sp_D_insertCalc G hv) (tw_catch (n := 2) (i := 19) (len := 2) (j := 8) rfl (tk_Z_insertCalc_2) (by decide) (by decide) (tb_m 1145 (by decide +kernel) rfl) (List.mem_of_getElem? (i := 0) (by decide +kernel)) rfl (Or.inr ⟨rfl, rfl⟩) rfl ?_)
          refine (?_ : im_I mi_Z_insertCalc 8 139 G M sw_i (some ((3 : Int32), M1)) 31 [some (.ref a1), some (.int a2), some (.int a3), some (.int a4), some (.int a5), some (.int a6), some (.int a7), some (.ref a8), none] [] M1) z hz
          refine im_iconst 20 31 rfl rfl ?_
          exact im_end rfl (wp_ireturn 21 32 rfl rfl)
        · rw [if_neg h1] at hz
          cases hz

theorem sp_Z_insertCalc (G : gl_T) {a1 : Nat} {a2 : Int32} {a3 : Int32} {a4 : Int32} {a5 : Int32} {a6 : Int32} {a7 : Int32} {a8 : Nat} {M : mm_T} {y : Int32 × mm_T} (h : ff_Z_insertCalc a1 a2 a3 a4 a5 a6 a7 a8 M = some y) : sp_S mi_Z_insertCalc 8 139 G [.ref a1, .int a2, .int a3, .int a4, .int a5, .int a6, .int a7, .ref a8] M (sw_i y).1 (sw_i y).2 := sp_of mo_Z_insertCalc mw_Z_insertCalc (Or.inl (by decide +kernel)) rfl rfl (Or.inr ⟨_, rfl⟩) (ip_Z_insertCalc G a1 a2 a3 a4 a5 a6 a7 a8 M y h)

set_option maxRecDepth 100000 in
set_option maxHeartbeats 4000000 in
theorem ip_Z_removeInstruction (G : gl_T) (a1 : Nat) (a2 : Int32) (a3 : Nat) (M : mm_T) : im_I mi_Z_removeInstruction 8 132 G M sw_i (ff_Z_removeInstruction a1 a2 a3 M) 0 [some (.ref a1), some (.int a2), some (.ref a3), none] [] M := by
  unfold ff_Z_removeInstruction
  refine im_aload_n 0 0 rfl rfl ?_
  refine im_iconst 1 1 rfl rfl ?_
  refine im_aload_n 2 2 rfl rfl ?_
  refine im_iload_n 3 3 rfl rfl ?_
  refine im_cs (S := [.int (0 : Int32), .ref a3]) (so := (fun v => some (.int v))) (fun _ _ hv => cpV (fr' := 7) (lo' := 111) (i := 4) (As := [.int a2]) (S := [.int (0 : Int32), .ref a3]) (a := a1) (c := 10) rfl lk_Z_128 mw_D_removeInstruction mv_D_removeInstruction rfl ⟨by decide, rfl⟩ rfl rfl rfl (gd_some hv).1 (sp_D_removeInstruction G hv)) (fun x1 M1 => ?_) (fun E M1 hv z hz => ?_)
  · refine im_i2l 5 7 rfl ?_
    refine im_lastore 6 8 rfl (fun M2 => ?_)
    refine im_goto 7 9 15 rfl (by decide) ?_
    refine im_iconst 11 15 rfl rfl ?_
    exact im_end rfl (wp_ireturn 12 16 rfl rfl)
  · replace hz : (if E = "java/lang/IndexOutOfBoundsException" then (some ((1 : Int32), M1)) else (none)) = some z := hz
    by_cases h1 : E = "java/lang/IndexOutOfBoundsException"
    · rw [if_pos h1] at hz
      subst h1
      refine xpV (fr' := 7) (lo' := 111) (i := 4) (As := [.int a2]) (S := [.int (0 : Int32), .ref a3]) (a := a1) (c := 10) rfl lm_Z_128 mw_D_removeInstruction mv_D_removeInstruction rfl ⟨by decide, rfl⟩ rfl rfl rfl (gd_some hv).1 (sp_D_removeInstruction G hv) (tw_catch (n := 0) (i := 8) (len := 1) (j := 3) rfl (fun z hz => by rw [show (tableOf (mi_hh mi_Z_removeInstruction)).take 0 = [] from rfl] at hz; exact nomatch hz) (by decide) (by decide) (tb_m 1254 (by decide +kernel) rfl) (List.mem_of_getElem? (i := 2) (by decide +kernel)) rfl (Or.inl ⟨⟨3, rfl, rfl⟩, rfl⟩) rfl ?_)
      refine (?_ : im_I mi_Z_removeInstruction 8 132 G M sw_i (some ((1 : Int32), M1)) 13 [some (.ref a1), some (.int a2), some (.ref a3), none] [] M1) z hz
      refine im_iconst 9 13 rfl rfl ?_
      exact im_end rfl (wp_ireturn 10 14 rfl rfl)
    · rw [if_neg h1] at hz
      cases hz

theorem sp_Z_removeInstruction (G : gl_T) {a1 : Nat} {a2 : Int32} {a3 : Nat} {M : mm_T} {y : Int32 × mm_T} (h : ff_Z_removeInstruction a1 a2 a3 M = some y) : sp_S mi_Z_removeInstruction 8 132 G [.ref a1, .int a2, .ref a3] M (sw_i y).1 (sw_i y).2 := sp_of mo_Z_removeInstruction mw_Z_removeInstruction (Or.inl (by decide +kernel)) rfl rfl (Or.inr ⟨_, rfl⟩) (ip_Z_removeInstruction G a1 a2 a3 M y h)

set_option maxRecDepth 100000 in
set_option maxHeartbeats 4000000 in
theorem ip_Z_setGoto (G : gl_T) (a1 : Nat) (a2 : Int32) (a3 : Int32) (a4 : Nat) (M : mm_T) : im_I mi_Z_setGoto 8 154 G M sw_i (ff_Z_setGoto a1 a2 a3 a4 M) 0 [some (.ref a1), some (.int a2), some (.int a3), some (.ref a4), none] [] M := by
  unfold ff_Z_setGoto
  refine im_aload_n 0 0 rfl rfl ?_
  refine im_iconst 1 1 rfl rfl ?_
  refine im_aload_n 2 2 rfl rfl ?_
  refine im_iload_n 3 3 rfl rfl ?_
  refine im_iload_n 4 4 rfl rfl ?_
  refine im_cs (S := [.int (0 : Int32), .ref a4]) (so := (fun v => some (.int v))) (fun _ _ hv => cpV (fr' := 7) (lo' := 132) (i := 5) (As := [.int a2, .int a3]) (S := [.int (0 : Int32), .ref a4]) (a := a1) (c := 10) rfl lk_Z_131 mw_D_setGoto mv_D_setGoto rfl ⟨by decide, rfl⟩ rfl rfl rfl (gd_some hv).1 (sp_D_setGoto G hv)) (fun x1 M1 => ?_) (fun E M1 hv z hz => ?_)
  · refine im_i2l 6 8 rfl ?_
    refine im_lastore 7 9 rfl (fun M2 => ?_)
    refine im_goto 8 10 17 rfl (by decide) ?_
    refine im_iconst 12 17 rfl rfl ?_
    exact im_end rfl (wp_ireturn 13 18 rfl rfl)
  · replace hz : (if E = "java/lang/IndexOutOfBoundsException" then (some ((1 : Int32), M1)) else (none)) = some z := hz
    by_cases h1 : E = "java/lang/IndexOutOfBoundsException"
    · rw [if_pos h1] at hz
      subst h1
      refine xpV (fr' := 7) (lo' := 132) (i := 5) (As := [.int a2, .int a3]) (S := [.int (0 : Int32), .ref a4]) (a := a1) (c := 10) rfl lm_Z_131 mw_D_setGoto mv_D_setGoto rfl ⟨by decide, rfl⟩ rfl rfl rfl (gd_some hv).1 (sp_D_setGoto G hv) (tw_catch (n := 0) (i := 9) (len := 2) (j := 4) rfl (fun z hz => by rw [show (tableOf (mi_hh mi_Z_setGoto)).take 0 = [] from rfl] at hz; exact nomatch hz) (by decide) (by decide) (tb_m 1254 (by decide +kernel) rfl) (List.mem_of_getElem? (i := 2) (by decide +kernel)) rfl (Or.inr ⟨rfl, rfl⟩) rfl ?_)
      refine (?_ : im_I mi_Z_setGoto 8 154 G M sw_i (some ((1 : Int32), M1)) 15 [some (.ref a1), some (.int a2), some (.int a3), some (.ref a4), none] [] M1) z hz
      refine im_iconst 10 15 rfl rfl ?_
      exact im_end rfl (wp_ireturn 11 16 rfl rfl)
    · rw [if_neg h1] at hz
      cases hz

theorem sp_Z_setGoto (G : gl_T) {a1 : Nat} {a2 : Int32} {a3 : Int32} {a4 : Nat} {M : mm_T} {y : Int32 × mm_T} (h : ff_Z_setGoto a1 a2 a3 a4 M = some y) : sp_S mi_Z_setGoto 8 154 G [.ref a1, .int a2, .int a3, .ref a4] M (sw_i y).1 (sw_i y).2 := sp_of mo_Z_setGoto mw_Z_setGoto (Or.inl (by decide +kernel)) rfl rfl (Or.inr ⟨_, rfl⟩) (ip_Z_setGoto G a1 a2 a3 a4 M y h)

set_option maxRecDepth 100000 in
set_option maxHeartbeats 4000000 in
theorem ip_Z_setBranch (G : gl_T) (a1 : Nat) (a2 : Int32) (a3 : Int32) (a4 : Int32) (a5 : Int32) (a6 : Nat) (M : mm_T) : im_I mi_Z_setBranch 8 156 G M sw_i (ff_Z_setBranch a1 a2 a3 a4 a5 a6 M) 0 [some (.ref a1), some (.int a2), some (.int a3), some (.int a4), some (.int a5), some (.ref a6), none] [] M := by
  unfold ff_Z_setBranch
  refine im_aload 0 0 rfl rfl ?_
  refine im_iconst 1 2 rfl rfl ?_
  refine im_aload_n 2 3 rfl rfl ?_
  refine im_iload_n 3 4 rfl rfl ?_
  refine im_iload_n 4 5 rfl rfl ?_
  refine im_iload_n 5 6 rfl rfl ?_
  refine im_iload 6 7 rfl rfl ?_
  refine im_cs (S := [.int (0 : Int32), .ref a6]) (so := (fun v => some (.int v))) (fun _ _ hv => cpV (fr' := 7) (lo' := 132) (i := 7) (As := [.int a2, .int a3, .int a4, .int a5]) (S := [.int (0 : Int32), .ref a6]) (a := a1) (c := 10) rfl lk_Z_134 mw_D_setBranch mv_D_setBranch rfl ⟨by decide, rfl⟩ rfl rfl rfl (gd_some hv).1 (sp_D_setBranch G hv)) (fun x1 M1 => ?_) (fun E M1 hv z hz => ?_)
  · refine im_i2l 8 12 rfl ?_
    refine im_lastore 9 13 rfl (fun M2 => ?_)
    refine im_goto 10 14 25 rfl (by decide) ?_
    refine im_iconst 17 25 rfl rfl ?_
    exact im_end rfl (wp_ireturn 18 26 rfl rfl)
  · replace hz : (if E = "java/lang/IndexOutOfBoundsException" then (some ((1 : Int32), M1)) else (if E = "java/lang/IllegalArgumentException" then (some ((2 : Int32), M1)) else (none))) = some z := hz
    by_cases h2 : E = "java/lang/IndexOutOfBoundsException"
    · rw [if_pos h2] at hz
      subst h2
      refine xpV (fr' := 7) (lo' := 132) (i := 7) (As := [.int a2, .int a3, .int a4, .int a5]) (S := [.int (0 : Int32), .ref a6]) (a := a1) (c := 10) rfl lm_Z_134 mw_D_setBranch mv_D_setBranch rfl ⟨by decide, rfl⟩ rfl rfl rfl (gd_some hv).1 (sp_D_setBranch G hv) (tw_catch (n := 0) (i := 11) (len := 2) (j := 6) rfl (fun z hz => by rw [show (tableOf (mi_hh mi_Z_setBranch)).take 0 = [] from rfl] at hz; exact nomatch hz) (by decide) (by decide) (tb_m 1254 (by decide +kernel) rfl) (List.mem_of_getElem? (i := 2) (by decide +kernel)) rfl (Or.inr ⟨rfl, rfl⟩) rfl ?_)
      refine (?_ : im_I mi_Z_setBranch 8 156 G M sw_i (some ((1 : Int32), M1)) 19 [some (.ref a1), some (.int a2), some (.int a3), some (.int a4), some (.int a5), some (.ref a6), none] [] M1) z hz
      refine im_iconst 12 19 rfl rfl ?_
      exact im_end rfl (wp_ireturn 13 20 rfl rfl)
    · rw [if_neg h2] at hz
      by_cases h1 : E = "java/lang/IllegalArgumentException"
      · rw [if_pos h1] at hz
        subst h1
        refine xpV (fr' := 7) (lo' := 132) (i := 7) (As := [.int a2, .int a3, .int a4, .int a5]) (S := [.int (0 : Int32), .ref a6]) (a := a1) (c := 10) rfl lm_Z_134 mw_D_setBranch mv_D_setBranch rfl ⟨by decide, rfl⟩ rfl rfl rfl (gd_some hv).1 (sp_D_setBranch G hv) (tw_catch (n := 1) (i := 14) (len := 2) (j := 6) rfl (tk_Z_setBranch_1) (by decide) (by decide) (tb_m 1226 (by decide +kernel) rfl) (List.mem_of_getElem? (i := 1) (by decide +kernel)) rfl (Or.inr ⟨rfl, rfl⟩) rfl ?_)
        refine (?_ : im_I mi_Z_setBranch 8 156 G M sw_i (some ((2 : Int32), M1)) 23 [some (.ref a1), some (.int a2), some (.int a3), some (.int a4), some (.int a5), some (.ref a6), none] [] M1) z hz
        refine im_iconst 15 23 rfl rfl ?_
        exact im_end rfl (wp_ireturn 16 24 rfl rfl)
      · rw [if_neg h1] at hz
        cases hz

theorem sp_Z_setBranch (G : gl_T) {a1 : Nat} {a2 : Int32} {a3 : Int32} {a4 : Int32} {a5 : Int32} {a6 : Nat} {M : mm_T} {y : Int32 × mm_T} (h : ff_Z_setBranch a1 a2 a3 a4 a5 a6 M = some y) : sp_S mi_Z_setBranch 8 156 G [.ref a1, .int a2, .int a3, .int a4, .int a5, .ref a6] M (sw_i y).1 (sw_i y).2 := sp_of mo_Z_setBranch mw_Z_setBranch (Or.inl (by decide +kernel)) rfl rfl (Or.inr ⟨_, rfl⟩) (ip_Z_setBranch G a1 a2 a3 a4 a5 a6 M y h)

set_option maxRecDepth 100000 in
set_option maxHeartbeats 4000000 in
theorem ip_Z_writeBlock (G : gl_T) (a1 : Nat) (a2 : Int32) (a3 : Nat) (M : mm_T) : im_I mi_Z_writeBlock 9 258 G M sw_i (ff_Z_writeBlock a1 a2 a3 M) 0 [some (.ref a1), some (.int a2), some (.ref a3), none] [] M := by
  unfold ff_Z_writeBlock
  refine im_aload_n 0 0 rfl rfl ?_
  refine im_iconst 1 1 rfl rfl ?_
  refine im_aload_n 2 2 rfl rfl ?_
  refine im_iload_n 3 3 rfl rfl ?_
  refine im_cs (S := [.int (0 : Int32), .ref a3]) (so := (fun v => some (.int v))) (fun _ _ hv => cpV (fr' := 8) (lo' := 236) (i := 4) (As := [.int a2]) (S := [.int (0 : Int32), .ref a3]) (a := a1) (c := 10) rfl lk_Z_137 mw_D_writeBlock mv_D_writeBlock rfl ⟨by decide, rfl⟩ rfl rfl rfl (gd_some hv).1 (sp_D_writeBlock G hv)) (fun x1 M1 => ?_) (fun E M1 hv z hz => ?_)
  · refine im_i2l 5 7 rfl ?_
    refine im_lastore 6 8 rfl (fun M2 => ?_)
    refine im_goto 7 9 15 rfl (by decide) ?_
    refine im_iconst 11 15 rfl rfl ?_
    exact im_end rfl (wp_ireturn 12 16 rfl rfl)
  · replace hz : (if E = "java/lang/IndexOutOfBoundsException" then (some ((1 : Int32), M1)) else (none)) = some z := hz
    by_cases h1 : E = "java/lang/IndexOutOfBoundsException"
    · rw [if_pos h1] at hz
      subst h1
      refine xpV (fr' := 8) (lo' := 236) (i := 4) (As := [.int a2]) (S := [.int (0 : Int32), .ref a3]) (a := a1) (c := 10) rfl lm_Z_137 mw_D_writeBlock mv_D_writeBlock rfl ⟨by decide, rfl⟩ rfl rfl rfl (gd_some hv).1 (sp_D_writeBlock G hv) (tw_catch (n := 0) (i := 8) (len := 1) (j := 3) rfl (fun z hz => by rw [show (tableOf (mi_hh mi_Z_writeBlock)).take 0 = [] from rfl] at hz; exact nomatch hz) (by decide) (by decide) (tb_m 1254 (by decide +kernel) rfl) (List.mem_of_getElem? (i := 2) (by decide +kernel)) rfl (Or.inl ⟨⟨3, rfl, rfl⟩, rfl⟩) rfl ?_)
      refine (?_ : im_I mi_Z_writeBlock 9 258 G M sw_i (some ((1 : Int32), M1)) 13 [some (.ref a1), some (.int a2), some (.ref a3), none] [] M1) z hz
      refine im_iconst 9 13 rfl rfl ?_
      exact im_end rfl (wp_ireturn 10 14 rfl rfl)
    · rw [if_neg h1] at hz
      cases hz

theorem sp_Z_writeBlock (G : gl_T) {a1 : Nat} {a2 : Int32} {a3 : Nat} {M : mm_T} {y : Int32 × mm_T} (h : ff_Z_writeBlock a1 a2 a3 M = some y) : sp_S mi_Z_writeBlock 9 258 G [.ref a1, .int a2, .ref a3] M (sw_i y).1 (sw_i y).2 := sp_of mo_Z_writeBlock mw_Z_writeBlock (Or.inl (by decide +kernel)) rfl rfl (Or.inr ⟨_, rfl⟩) (ip_Z_writeBlock G a1 a2 a3 M y h)

set_option maxRecDepth 100000 in
set_option maxHeartbeats 4000000 in
theorem ip_Z_undo (G : gl_T) (a1 : Nat) (a2 : Nat) (M : mm_T) : im_I mi_Z_undo 7 110 G M sw_i (ff_Z_undo a1 a2 M) 0 [some (.ref a1), some (.ref a2), none] [] M := by
  unfold ff_Z_undo
  refine im_aload_n 0 0 rfl rfl ?_
  refine im_iconst 1 1 rfl rfl ?_
  refine im_aload_n 2 2 rfl rfl ?_
  refine im_cs (S := [.int (0 : Int32), .ref a2]) (so := (fun v => some (.int v))) (fun _ _ hv => cpV (fr' := 6) (lo' := 90) (i := 3) (As := []) (S := [.int (0 : Int32), .ref a2]) (a := a1) (c := 10) rfl lk_Z_140 mw_D_undo mv_D_undo rfl ⟨by decide, rfl⟩ rfl rfl rfl (gd_some hv).1 (sp_D_undo G hv)) (fun x1 M1 => ?_) (fun E M1 hv z hz => ?_)
  · refine im_i2l 4 6 rfl ?_
    refine im_lastore 5 7 rfl (fun M2 => ?_)
    refine im_goto 6 8 14 rfl (by decide) ?_
    refine im_iconst 10 14 rfl rfl ?_
    exact im_end rfl (wp_ireturn 11 15 rfl rfl)
  · replace hz : (if E = "java/lang/IllegalStateException" then (some ((1 : Int32), M1)) else (none)) = some z := hz
    by_cases h1 : E = "java/lang/IllegalStateException"
    · rw [if_pos h1] at hz
      subst h1
      refine xpV (fr' := 6) (lo' := 90) (i := 3) (As := []) (S := [.int (0 : Int32), .ref a2]) (a := a1) (c := 10) rfl lm_Z_140 mw_D_undo mv_D_undo rfl ⟨by decide, rfl⟩ rfl rfl rfl (gd_some hv).1 (sp_D_undo G hv) (tw_catch (n := 0) (i := 7) (len := 1) (j := 2) rfl (fun z hz => by rw [show (tableOf (mi_hh mi_Z_undo)).take 0 = [] from rfl] at hz; exact nomatch hz) (by decide) (by decide) (tb_m 1145 (by decide +kernel) rfl) (List.mem_of_getElem? (i := 0) (by decide +kernel)) rfl (Or.inl ⟨⟨2, rfl, rfl⟩, rfl⟩) rfl ?_)
      refine (?_ : im_I mi_Z_undo 7 110 G M sw_i (some ((1 : Int32), M1)) 12 [some (.ref a1), some (.ref a2), none] [] M1) z hz
      refine im_iconst 8 12 rfl rfl ?_
      exact im_end rfl (wp_ireturn 9 13 rfl rfl)
    · rw [if_neg h1] at hz
      cases hz

theorem sp_Z_undo (G : gl_T) {a1 : Nat} {a2 : Nat} {M : mm_T} {y : Int32 × mm_T} (h : ff_Z_undo a1 a2 M = some y) : sp_S mi_Z_undo 7 110 G [.ref a1, .ref a2] M (sw_i y).1 (sw_i y).2 := sp_of mo_Z_undo mw_Z_undo (Or.inl (by decide +kernel)) rfl rfl (Or.inr ⟨_, rfl⟩) (ip_Z_undo G a1 a2 M y h)

set_option maxRecDepth 100000 in
set_option maxHeartbeats 4000000 in
theorem ip_Z_saveSnapshot (G : gl_T) (a1 : Nat) (a2 : Int32) (M : mm_T) : im_I mi_Z_saveSnapshot 7 112 G M sw_i (ff_Z_saveSnapshot a1 a2 M) 0 [some (.ref a1), some (.int a2), none] [] M := by
  unfold ff_Z_saveSnapshot
  refine im_aload_n 0 0 rfl rfl ?_
  refine im_iload_n 1 1 rfl rfl ?_
  refine im_cs (S := []) (so := (fun _ => none)) (fun _ _ hv => cpV (fr' := 6) (lo' := 90) (i := 2) (As := [.int a2]) (S := []) (a := a1) (c := 10) rfl lk_Z_144 mw_D_saveSnapshot mv_D_saveSnapshot rfl ⟨by decide, rfl⟩ rfl rfl rfl (gd_some hv).1 (sp_D_saveSnapshot G hv)) (fun x1 M1 => ?_) (fun E M1 hv z hz => ?_)
  · refine im_goto 3 5 11 rfl (by decide) ?_
    refine im_iconst 7 11 rfl rfl ?_
    exact im_end rfl (wp_ireturn 8 12 rfl rfl)
  · replace hz : (if E = "java/lang/IllegalArgumentException" then (some ((1 : Int32), M1)) else (none)) = some z := hz
    by_cases h1 : E = "java/lang/IllegalArgumentException"
    · rw [if_pos h1] at hz
      subst h1
      refine xpV (fr' := 6) (lo' := 90) (i := 2) (As := [.int a2]) (S := []) (a := a1) (c := 10) rfl lm_Z_144 mw_D_saveSnapshot mv_D_saveSnapshot rfl ⟨by decide, rfl⟩ rfl rfl rfl (gd_some hv).1 (sp_D_saveSnapshot G hv) (tw_catch (n := 0) (i := 4) (len := 1) (j := 2) rfl (fun z hz => by rw [show (tableOf (mi_hh mi_Z_saveSnapshot)).take 0 = [] from rfl] at hz; exact nomatch hz) (by decide) (by decide) (tb_m 1226 (by decide +kernel) rfl) (List.mem_of_getElem? (i := 1) (by decide +kernel)) rfl (Or.inl ⟨⟨2, rfl, rfl⟩, rfl⟩) rfl ?_)
      refine (?_ : im_I mi_Z_saveSnapshot 7 112 G M sw_i (some ((1 : Int32), M1)) 9 [some (.ref a1), some (.int a2), none] [] M1) z hz
      refine im_iconst 5 9 rfl rfl ?_
      exact im_end rfl (wp_ireturn 6 10 rfl rfl)
    · rw [if_neg h1] at hz
      cases hz

theorem sp_Z_saveSnapshot (G : gl_T) {a1 : Nat} {a2 : Int32} {M : mm_T} {y : Int32 × mm_T} (h : ff_Z_saveSnapshot a1 a2 M = some y) : sp_S mi_Z_saveSnapshot 7 112 G [.ref a1, .int a2] M (sw_i y).1 (sw_i y).2 := sp_of mo_Z_saveSnapshot mw_Z_saveSnapshot (Or.inl (by decide +kernel)) rfl rfl (Or.inr ⟨_, rfl⟩) (ip_Z_saveSnapshot G a1 a2 M y h)

set_option maxRecDepth 100000 in
set_option maxHeartbeats 4000000 in
theorem ip_Z_restoreSnapshot (G : gl_T) (a1 : Nat) (a2 : Int32) (M : mm_T) : im_I mi_Z_restoreSnapshot 7 112 G M sw_i (ff_Z_restoreSnapshot a1 a2 M) 0 [some (.ref a1), some (.int a2), none] [] M := by
  unfold ff_Z_restoreSnapshot
  refine im_aload_n 0 0 rfl rfl ?_
  refine im_iload_n 1 1 rfl rfl ?_
  refine im_cs (S := []) (so := (fun _ => none)) (fun _ _ hv => cpV (fr' := 6) (lo' := 90) (i := 2) (As := [.int a2]) (S := []) (a := a1) (c := 10) rfl lk_Z_148 mw_D_restoreSnapshot mv_D_restoreSnapshot rfl ⟨by decide, rfl⟩ rfl rfl rfl (gd_some hv).1 (sp_D_restoreSnapshot G hv)) (fun x1 M1 => ?_) (fun E M1 hv z hz => ?_)
  · refine im_goto 3 5 14 rfl (by decide) ?_
    refine im_iconst 10 14 rfl rfl ?_
    exact im_end rfl (wp_ireturn 11 15 rfl rfl)
  · replace hz : (if E = "java/lang/IllegalArgumentException" then (some ((1 : Int32), M1)) else (if E = "java/lang/IllegalStateException" then (some ((2 : Int32), M1)) else (none))) = some z := hz
    by_cases h2 : E = "java/lang/IllegalArgumentException"
    · rw [if_pos h2] at hz
      subst h2
      refine xpV (fr' := 6) (lo' := 90) (i := 2) (As := [.int a2]) (S := []) (a := a1) (c := 10) rfl lm_Z_148 mw_D_restoreSnapshot mv_D_restoreSnapshot rfl ⟨by decide, rfl⟩ rfl rfl rfl (gd_some hv).1 (sp_D_restoreSnapshot G hv) (tw_catch (n := 0) (i := 4) (len := 1) (j := 2) rfl (fun z hz => by rw [show (tableOf (mi_hh mi_Z_restoreSnapshot)).take 0 = [] from rfl] at hz; exact nomatch hz) (by decide) (by decide) (tb_m 1226 (by decide +kernel) rfl) (List.mem_of_getElem? (i := 1) (by decide +kernel)) rfl (Or.inl ⟨⟨2, rfl, rfl⟩, rfl⟩) rfl ?_)
      refine (?_ : im_I mi_Z_restoreSnapshot 7 112 G M sw_i (some ((1 : Int32), M1)) 9 [some (.ref a1), some (.int a2), none] [] M1) z hz
      refine im_iconst 5 9 rfl rfl ?_
      exact im_end rfl (wp_ireturn 6 10 rfl rfl)
    · rw [if_neg h2] at hz
      by_cases h1 : E = "java/lang/IllegalStateException"
      · rw [if_pos h1] at hz
        subst h1
        refine xpV (fr' := 6) (lo' := 90) (i := 2) (As := [.int a2]) (S := []) (a := a1) (c := 10) rfl lm_Z_148 mw_D_restoreSnapshot mv_D_restoreSnapshot rfl ⟨by decide, rfl⟩ rfl rfl rfl (gd_some hv).1 (sp_D_restoreSnapshot G hv) (tw_catch (n := 1) (i := 7) (len := 1) (j := 2) rfl (tk_Z_restoreSnapshot_1) (by decide) (by decide) (tb_m 1145 (by decide +kernel) rfl) (List.mem_of_getElem? (i := 0) (by decide +kernel)) rfl (Or.inl ⟨⟨2, rfl, rfl⟩, rfl⟩) rfl ?_)
        refine (?_ : im_I mi_Z_restoreSnapshot 7 112 G M sw_i (some ((2 : Int32), M1)) 12 [some (.ref a1), some (.int a2), none] [] M1) z hz
        refine im_iconst 8 12 rfl rfl ?_
        exact im_end rfl (wp_ireturn 9 13 rfl rfl)
      · rw [if_neg h1] at hz
        cases hz

theorem sp_Z_restoreSnapshot (G : gl_T) {a1 : Nat} {a2 : Int32} {M : mm_T} {y : Int32 × mm_T} (h : ff_Z_restoreSnapshot a1 a2 M = some y) : sp_S mi_Z_restoreSnapshot 7 112 G [.ref a1, .int a2] M (sw_i y).1 (sw_i y).2 := sp_of mo_Z_restoreSnapshot mw_Z_restoreSnapshot (Or.inl (by decide +kernel)) rfl rfl (Or.inr ⟨_, rfl⟩) (ip_Z_restoreSnapshot G a1 a2 M y h)

