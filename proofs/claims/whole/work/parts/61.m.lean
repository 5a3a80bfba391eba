set_option maxRecDepth 100000 in
set_option maxHeartbeats 4000000 in
theorem ip_M_isInitialReaching (G : gl_T) (t : Nat) (a1 : Int32) (a2 : Int32) (M : mm_T) : im_I mi_M_isInitialReaching 21 488 G M sw_i (ff_M_isInitialReaching t a1 a2 M) 0 [some (.ref t), some (.int a1), some (.int a2)] [] M := by
  unfold ff_M_isInitialReaching
  refine im_gd (fun hg => ?_)
  refine im_aload_n 0 0 rfl rfl ?_
  refine im_iload_n 1 1 rfl rfl ?_
  refine im_cWi (S := []) (fun _ _ hv => cpV (fr' := 2) (lo' := 42) (i := 2) (As := [.int a1]) (S := []) (a := t) (c := 11) rfl lk_M_329 mw_M_isBlock mv_M_isBlock rfl ⟨by decide, rfl⟩ rfl rfl rfl (gd_some hv).1 (sp_M_isBlock G hv)) (fun x1 M1 => ?_)
  refine im_if_eq 3 5 17 rfl (by decide) ?_ ?_
  · refine im_iconst 9 17 rfl rfl ?_
    exact im_end rfl (wp_zreturn 10 18 (ty := .boolean) rfl (by first | exact nz_0 | exact nz_1) rfl)
  · refine im_aload_n 4 8 rfl rfl ?_
    refine im_iload_n 5 9 rfl rfl ?_
    refine im_iconst 6 10 rfl rfl ?_
    refine im_cWi (S := []) (fun _ _ hv => cpV (fr' := 2) (lo' := 42) (i := 7) (As := [.int a2, .int (2 : Int32)]) (S := []) (a := t) (c := 11) rfl lk_M_335 mw_M_isVariable mv_M_isVariable rfl ⟨by decide, rfl⟩ rfl rfl rfl (gd_some hv).1 (sp_M_isVariable G hv)) (fun x2 M2 => ?_)
    refine im_if_ne 8 14 19 rfl (by decide) ?_ ?_
    · refine im_aload_n 11 19 rfl rfl ?_
      refine im_iload_n 12 20 rfl rfl ?_
      refine im_iload_n 13 21 rfl rfl ?_
      refine im_cWi (S := []) (fun _ _ hv => cpV (fr' := 20) (lo' := 466) (i := 14) (As := [.int a1, .int a2]) (S := []) (a := t) (c := 11) rfl lk_M_130 mw_M_isFirstAt mv_M_isFirstAt rfl ⟨by decide, rfl⟩ rfl rfl rfl (gd_some hv).1 (sp_M_isFirstAt G hv)) (fun x3 M3 => ?_)
      exact im_endZ (fun _ => rfl) (fun hn => wp_zreturn 15 25 (ty := .boolean) rfl hn rfl)
    · refine im_iconst 9 17 rfl rfl ?_
      exact im_end rfl (wp_zreturn 10 18 (ty := .boolean) rfl (by first | exact nz_0 | exact nz_1) rfl)

theorem sp_M_isInitialReaching (G : gl_T) {t : Nat} {a1 : Int32} {a2 : Int32} {M : mm_T} {y : Int32 × mm_T} (h : ff_M_isInitialReaching t a1 a2 M = some y) : sp_S mi_M_isInitialReaching 21 488 G [.ref t, .int a1, .int a2] M (sw_i y).1 (sw_i y).2 := sp_of mo_M_isInitialReaching mw_M_isInitialReaching (Or.inl (by decide +kernel)) rfl rfl (Or.inl rfl) (ip_M_isInitialReaching G t a1 a2 M y h)

set_option maxRecDepth 100000 in
set_option maxHeartbeats 4000000 in
theorem li_M_usesOf_50 (G : gl_T) (M0 : mm_T) (k0 : Int32 → mm_T → Option (Int32 × mm_T)) (p0 : Nat) (p1 : Int32) (p2 : Int32) (p4 : Int32) (hk0 : ∀ (z3 : Int32) (N : mm_T), im_I mi_M_usesOf 22 515 G M0 sw_i (k0 z3 N) 100 [some (.ref p0), some (.int p1), some (.int p2), some (.int z3), some (.int p4), none] [] N) : ∀ (fu : Nat) (q3 : Int32) (q5 : Int32) (N : mm_T), im_I mi_M_usesOf 22 515 G M0 sw_i (lf_M_usesOf_50 k0 p0 p1 p2 p4 fu q3 q5 N) 50 [some (.ref p0), some (.int p1), some (.int p2), some (.int q3), some (.int p4), some (.int q5)] [] N := by
  intro fu
  induction fu with
  | zero => intro _ _ _; exact im_none
  | succ fu ih =>
    intro q3 q5 N
    show im_I mi_M_usesOf 22 515 G M0 sw_i (lb_M_usesOf_50 k0 p0 p1 p2 p4 (lf_M_usesOf_50 k0 p0 p1 p2 p4 fu) q3 q5 N) 50 [some (.ref p0), some (.int p1), some (.int p2), some (.int q3), some (.int p4), some (.int q5)] [] N
    unfold lb_M_usesOf_50
    refine im_iload 30 50 rfl rfl ?_
    refine im_aload_n 31 52 rfl rfl ?_
    refine im_iload 32 53 rfl rfl ?_
    refine im_ci (S := [.int q5]) (fun _ hv => cpV (fr' := 4) (lo' := 86) (i := 33) (As := [.int p4]) (S := [.int q5]) (a := p0) (c := 11) rfl lk_M_87 mw_M_endOf mv_M_endOf rfl ⟨by decide, rfl⟩ rfl rfl rfl (gd_some hv).1 (sp_M_endOf G hv)) (fun x6 => ?_)
    refine im_ic_ge 34 58 100 rfl (by decide) ?_ ?_
    · exact im_less _ (by simp [lv_le]) (hk0 q3 N)
    · refine im_iload_n 35 61 rfl rfl ?_
      refine im_aload_n 36 62 rfl rfl ?_
      refine im_iload 37 63 rfl rfl ?_
      refine im_iload_n 38 65 rfl rfl ?_
      refine im_ci (S := [.int q3]) (fun _ hv => cpV (fr' := 3) (lo' := 63) (i := 39) (As := [.int q5, .int p2]) (S := [.int q3]) (a := p0) (c := 11) rfl lk_M_133 mw_M_uses mv_M_uses rfl ⟨by decide, rfl⟩ rfl rfl rfl (gd_some hv).1 (sp_M_uses G hv)) (fun x7 => ?_)
      refine im_jp (fun j89 => ∀ (x8 : Int32) (M2 : mm_T), im_I mi_M_usesOf 22 515 G M0 sw_i (j89 x8 M2) 89 [some (.ref p0), some (.int p1), some (.int p2), none, some (.int p4), some (.int q5)] [.int x8, .int q3] M2) ?_ (fun j89 hj89 => ?_)
      · intro x8 M2
        show im_I mi_M_usesOf 22 515 G M0 sw_i (_) 89 [some (.ref p0), some (.int p1), some (.int p2), none, some (.int p4), some (.int q5)] [.int x8, .int q3] M2
        refine im_ci (S := [.int q3]) (fun _ hv => cpS (fr' := 1) (lo' := 20) (i := 50) (As := [.int x8]) (S := [.int q3]) rfl lk_M_117 mw_M_one mv_M_one rfl rfl rfl rfl (sp_M_one G hv)) (fun x9 => ?_)
        refine im_iadd 51 92 rfl ?_
        refine im_letI (fun x10 => ?_)
        refine im_istore_n 52 93 [some (.ref p0), some (.int p1), some (.int p2), some (.int x10), some (.int p4), some (.int q5)] rfl rfl rfl ?_
        refine im_iincL 53 94 (fun x11 => [some (.ref p0), some (.int p1), some (.int p2), some (.int x10), some (.int p4), some (.int x11)]) rfl rfl rfl rfl (fun _ => rfl) (fun x11 => ?_)
        refine im_goto 54 97 50 rfl (by decide) ?_
        exact im_less _ (by simp [lv_le]) (ih x10 x11 M2)
      refine im_jp (fun j88 => ∀  (M3 : mm_T), im_I mi_M_usesOf 22 515 G M0 sw_i (j88 M3) 88 [some (.ref p0), some (.int p1), some (.int p2), none, some (.int p4), some (.int q5)] [.int q3] M3) ?_ (fun j88 hj88 => ?_)
      · intro M3
        show im_I mi_M_usesOf 22 515 G M0 sw_i (_) 88 [some (.ref p0), some (.int p1), some (.int p2), none, some (.int p4), some (.int q5)] [.int q3] M3
        refine im_iconst 49 88 rfl rfl ?_
        exact im_less _ (by simp [lv_le]) (hj89 (0 : Int32) M3)
      refine im_if_eq 40 69 88 rfl (by decide) ?_ ?_
      · exact im_less _ (by simp [lv_le]) (hj88 N)
      · refine im_aload_n 41 72 rfl rfl ?_
        refine im_iload_n 42 73 rfl rfl ?_
        refine im_iload 43 74 rfl rfl ?_
        refine im_iload 44 76 rfl rfl ?_
        refine im_cWi (S := [.int q3]) (fun _ _ hv => cpV (fr' := 21) (lo' := 491) (i := 45) (As := [.int p1, .int p4, .int q5]) (S := [.int q3]) (a := p0) (c := 11) rfl lk_M_338 mw_M_reachesPlace mv_M_reachesPlace rfl ⟨by decide, rfl⟩ rfl rfl rfl (gd_some hv).1 (sp_M_reachesPlace G hv)) (fun x12 M4 => ?_)
        refine im_if_eq 46 81 88 rfl (by decide) ?_ ?_
        · exact im_less _ (by simp [lv_le]) (hj88 M4)
        · refine im_iconst 47 84 rfl rfl ?_
          refine im_goto 48 85 89 rfl (by decide) ?_
          exact im_less _ (by simp [lv_le]) (hj89 (1 : Int32) M4)

set_option maxRecDepth 100000 in
set_option maxHeartbeats 4000000 in
theorem li_M_usesOf_32 (G : gl_T) (M0 : mm_T) (p0 : Nat) (p1 : Int32) (p2 : Int32) : ∀ (fu : Nat) (q3 : Int32) (q4 : Int32) (N : mm_T), im_I mi_M_usesOf 22 515 G M0 sw_i (lf_M_usesOf_32 p0 p1 p2 fu q3 q4 N) 32 [some (.ref p0), some (.int p1), some (.int p2), some (.int q3), some (.int q4), none] [] N := by
  intro fu
  induction fu with
  | zero => intro _ _ _; exact im_none
  | succ fu ih =>
    intro q3 q4 N
    show im_I mi_M_usesOf 22 515 G M0 sw_i (lb_M_usesOf_32 p0 p1 p2 (lf_M_usesOf_32 p0 p1 p2 fu) q3 q4 N) 32 [some (.ref p0), some (.int p1), some (.int p2), some (.int q3), some (.int q4), none] [] N
    unfold lb_M_usesOf_32
    refine im_iload 21 32 rfl rfl ?_
    refine im_aload_n 22 34 rfl rfl ?_
    refine im_iconst 23 35 rfl rfl ?_
    refine im_ci (S := [.int q4]) (fun _ hv => cpV (fr' := 1) (lo' := 20) (i := 24) (As := [.int (0 : Int32)]) (S := [.int q4]) (a := p0) (c := 11) rfl lk_M_61 mw_M_get mv_M_get rfl ⟨by decide, rfl⟩ rfl rfl rfl (gd_some hv).1 (sp_M_get G hv)) (fun x4 => ?_)
    refine im_ic_ge 25 39 143 rfl (by decide) ?_ ?_
    · refine im_iload_n 77 143 rfl rfl ?_
      exact im_end rfl (wp_ireturn 78 144 rfl rfl)
    · refine im_aload_n 26 42 rfl rfl ?_
      refine im_iload 27 43 rfl rfl ?_
      refine im_ci (S := []) (fun _ hv => cpV (fr' := 3) (lo' := 63) (i := 28) (As := [.int q4]) (S := []) (a := p0) (c := 11) rfl lk_M_84 mw_M_firstOf mv_M_firstOf rfl ⟨by decide, rfl⟩ rfl rfl rfl (gd_some hv).1 (sp_M_firstOf G hv)) (fun x5 => ?_)
      refine im_istore 29 48 [some (.ref p0), some (.int p1), some (.int p2), some (.int q3), some (.int q4), some (.int x5)] rfl rfl rfl ?_
      refine im_less [some (.ref p0), some (.int p1), some (.int p2), some (.int q3), some (.int q4), some (.int x5)] (by simp [lv_le]) ?_
      refine li_M_usesOf_50 G M0 _ p0 p1 p2 q4 ?_ fu_L q3 x5 N
      · intro x13 M5
        show im_I mi_M_usesOf 22 515 G M0 sw_i (_) 100 [some (.ref p0), some (.int p1), some (.int p2), some (.int x13), some (.int q4), none] [] M5
        refine im_iload_n 55 100 rfl rfl ?_
        refine im_aload_n 56 101 rfl rfl ?_
        refine im_iload 57 102 rfl rfl ?_
        refine im_iload_n 58 104 rfl rfl ?_
        refine im_ci (S := [.int x13]) (fun _ hv => cpV (fr' := 3) (lo' := 63) (i := 59) (As := [.int q4, .int p2]) (S := [.int x13]) (a := p0) (c := 11) rfl lk_M_136 mw_M_usesAtExit mv_M_usesAtExit rfl ⟨by decide, rfl⟩ rfl rfl rfl (gd_some hv).1 (sp_M_usesAtExit G hv)) (fun x14 => ?_)
        refine im_jp (fun j132 => ∀ (x15 : Int32) (M6 : mm_T), im_I mi_M_usesOf 22 515 G M0 sw_i (j132 x15 M6) 132 [some (.ref p0), some (.int p1), some (.int p2), none, some (.int q4), none] [.int x15, .int x13] M6) ?_ (fun j132 hj132 => ?_)
        · intro x15 M6
          show im_I mi_M_usesOf 22 515 G M0 sw_i (_) 132 [some (.ref p0), some (.int p1), some (.int p2), none, some (.int q4), none] [.int x15, .int x13] M6
          refine im_ci (S := [.int x13]) (fun _ hv => cpS (fr' := 1) (lo' := 20) (i := 72) (As := [.int x15]) (S := [.int x13]) rfl lk_M_117 mw_M_one mv_M_one rfl rfl rfl rfl (sp_M_one G hv)) (fun x16 => ?_)
          refine im_iadd 73 135 rfl ?_
          refine im_letI (fun x17 => ?_)
          refine im_istore_n 74 136 [some (.ref p0), some (.int p1), some (.int p2), some (.int x17), some (.int q4), none] rfl rfl rfl ?_
          refine im_iincL 75 137 (fun x18 => [some (.ref p0), some (.int p1), some (.int p2), some (.int x17), some (.int x18), none]) rfl rfl rfl rfl (fun _ => rfl) (fun x18 => ?_)
          refine im_goto 76 140 32 rfl (by decide) ?_
          exact im_less _ (by simp [lv_le]) (ih x17 x18 M6)
        refine im_jp (fun j131 => ∀  (M7 : mm_T), im_I mi_M_usesOf 22 515 G M0 sw_i (j131 M7) 131 [some (.ref p0), some (.int p1), some (.int p2), none, some (.int q4), none] [.int x13] M7) ?_ (fun j131 hj131 => ?_)
        · intro M7
          show im_I mi_M_usesOf 22 515 G M0 sw_i (_) 131 [some (.ref p0), some (.int p1), some (.int p2), none, some (.int q4), none] [.int x13] M7
          refine im_iconst 71 131 rfl rfl ?_
          exact im_less _ (by simp [lv_le]) (hj132 (0 : Int32) M7)
        refine im_if_eq 60 108 131 rfl (by decide) ?_ ?_
        · exact im_less _ (by simp [lv_le]) (hj131 M5)
        · refine im_aload_n 61 111 rfl rfl ?_
          refine im_iload_n 62 112 rfl rfl ?_
          refine im_iload 63 113 rfl rfl ?_
          refine im_aload_n 64 115 rfl rfl ?_
          refine im_iload 65 116 rfl rfl ?_
          refine im_ci (S := [.int q4, .int p1, .ref p0, .int x13]) (fun _ hv => cpV (fr' := 4) (lo' := 86) (i := 66) (As := [.int q4]) (S := [.int q4, .int p1, .ref p0, .int x13]) (a := p0) (c := 11) rfl lk_M_87 mw_M_endOf mv_M_endOf rfl ⟨by decide, rfl⟩ rfl rfl rfl (gd_some hv).1 (sp_M_endOf G hv)) (fun x19 => ?_)
          refine im_cWi (S := [.int x13]) (fun _ _ hv => cpV (fr' := 21) (lo' := 491) (i := 67) (As := [.int p1, .int q4, .int x19]) (S := [.int x13]) (a := p0) (c := 11) rfl lk_M_338 mw_M_reachesPlace mv_M_reachesPlace rfl ⟨by decide, rfl⟩ rfl rfl rfl (gd_some hv).1 (sp_M_reachesPlace G hv)) (fun x20 M8 => ?_)
          refine im_if_eq 68 124 131 rfl (by decide) ?_ ?_
          · exact im_less _ (by simp [lv_le]) (hj131 M8)
          · refine im_iconst 69 127 rfl rfl ?_
            refine im_goto 70 128 132 rfl (by decide) ?_
            exact im_less _ (by simp [lv_le]) (hj132 (1 : Int32) M8)

set_option maxRecDepth 100000 in
set_option maxHeartbeats 4000000 in
theorem ip_M_usesOf (G : gl_T) (t : Nat) (a1 : Int32) (M : mm_T) : im_I mi_M_usesOf 22 515 G M sw_i (ff_M_usesOf t a1 M) 0 [some (.ref t), some (.int a1), none, none, none, none] [] M := by
  unfold ff_M_usesOf
  refine im_gd (fun hg => ?_)
  refine im_aload_n 0 0 rfl rfl ?_
  refine im_iload_n 1 1 rfl rfl ?_
  refine im_cWi (S := []) (fun _ _ hv => cpV (fr' := 2) (lo' := 42) (i := 2) (As := [.int a1]) (S := []) (a := t) (c := 11) rfl lk_M_332 mw_M_isItem mv_M_isItem rfl ⟨by decide, rfl⟩ rfl rfl rfl (gd_some hv).1 (sp_M_isItem G hv)) (fun x1 M1 => ?_)
  refine im_if_ne 3 5 10 rfl (by decide) ?_ ?_
  · refine im_aload_n 6 10 rfl rfl ?_
    refine im_iload_n 7 11 rfl rfl ?_
    refine im_ci (S := []) (fun _ hv => cpV (fr' := 3) (lo' := 63) (i := 8) (As := [.int a1]) (S := []) (a := t) (c := 11) rfl lk_M_99 mw_M_isDefinition mv_M_isDefinition rfl ⟨by decide, rfl⟩ rfl rfl rfl (gd_some hv).1 (sp_M_isDefinition G hv)) (fun x2 => ?_)
    refine im_if_ne 9 15 20 rfl (by decide) ?_ ?_
    · refine im_aload_n 12 20 rfl rfl ?_
      refine im_iload_n 13 21 rfl rfl ?_
      refine im_iconst 14 22 rfl rfl ?_
      refine im_ci (S := []) (fun _ hv => cpV (fr' := 2) (lo' := 41) (i := 15) (As := [.int a1, .int (1 : Int32)]) (S := []) (a := t) (c := 11) rfl lk_M_96 mw_M_it mv_M_it rfl ⟨by decide, rfl⟩ rfl rfl rfl (gd_some hv).1 (sp_M_it G hv)) (fun x3 => ?_)
      refine im_istore_n 16 26 [some (.ref t), some (.int a1), some (.int x3), none, none, none] rfl rfl rfl ?_
      refine im_iconst 17 27 rfl rfl ?_
      refine im_istore_n 18 28 [some (.ref t), some (.int a1), some (.int x3), some (.int (0 : Int32)), none, none] rfl rfl rfl ?_
      refine im_iconst 19 29 rfl rfl ?_
      refine im_istore 20 30 [some (.ref t), some (.int a1), some (.int x3), some (.int (0 : Int32)), some (.int (0 : Int32)), none] rfl rfl rfl ?_
      refine im_less [some (.ref t), some (.int a1), some (.int x3), some (.int (0 : Int32)), some (.int (0 : Int32)), none] (by simp [lv_le]) ?_
      exact li_M_usesOf_32 G M t a1 x3 fu_L (0 : Int32) (0 : Int32) M1
    · refine im_iconst 10 18 rfl rfl ?_
      exact im_end rfl (wp_ireturn 11 19 rfl rfl)
  · refine im_iconst 4 8 rfl rfl ?_
    exact im_end rfl (wp_ireturn 5 9 rfl rfl)

theorem sp_M_usesOf (G : gl_T) {t : Nat} {a1 : Int32} {M : mm_T} {y : Int32 × mm_T} (h : ff_M_usesOf t a1 M = some y) : sp_S mi_M_usesOf 22 515 G [.ref t, .int a1] M (sw_i y).1 (sw_i y).2 := sp_of mo_M_usesOf mw_M_usesOf (Or.inl (by decide +kernel)) rfl rfl (Or.inl rfl) (ip_M_usesOf G t a1 M y h)

set_option maxRecDepth 100000 in
set_option maxHeartbeats 4000000 in
theorem li_M_onlyDefinition_98 (G : gl_T) (M0 : mm_T) (k0 : Int32 → Int32 → mm_T → Option (Int32 × mm_T)) (p0 : Nat) (p1 : Int32) (p4 : Int32) (p5 : Int32) (hk0 : ∀ (z6 : Int32) (z7 : Int32) (N : mm_T), im_I mi_M_onlyDefinition 22 515 G M0 sw_i (k0 z6 z7 N) 147 [none, none, none, none, none, none, some (.int z6), some (.int z7), none] [] N) : ∀ (fu : Nat) (q6 : Int32) (q7 : Int32) (q8 : Int32) (N : mm_T), im_I mi_M_onlyDefinition 22 515 G M0 sw_i (lf_M_onlyDefinition_98 k0 p0 p1 p4 p5 fu q6 q7 q8 N) 98 [some (.ref p0), some (.int p1), none, none, some (.int p4), some (.int p5), some (.int q6), some (.int q7), some (.int q8)] [] N := by
  intro fu
  induction fu with
  | zero => intro _ _ _ _; exact im_none
  | succ fu ih =>
    intro q6 q7 q8 N
    show im_I mi_M_onlyDefinition 22 515 G M0 sw_i (lb_M_onlyDefinition_98 k0 p0 p1 p4 p5 (lf_M_onlyDefinition_98 k0 p0 p1 p4 p5 fu) q6 q7 q8 N) 98 [some (.ref p0), some (.int p1), none, none, some (.int p4), some (.int p5), some (.int q6), some (.int q7), some (.int q8)] [] N
    unfold lb_M_onlyDefinition_98
    refine im_iload 57 98 rfl rfl ?_
    refine im_aload_n 58 100 rfl rfl ?_
    refine im_iconst 59 101 rfl rfl ?_
    refine im_ci (S := [.int q8]) (fun _ hv => cpV (fr' := 1) (lo' := 20) (i := 60) (As := [.int (1 : Int32)]) (S := [.int q8]) (a := p0) (c := 11) rfl lk_M_61 mw_M_get mv_M_get rfl ⟨by decide, rfl⟩ rfl rfl rfl (gd_some hv).1 (sp_M_get G hv)) (fun x9 => ?_)
    refine im_ic_ge 61 105 147 rfl (by decide) ?_ ?_
    · exact im_less _ (by simp [lv_le]) (hk0 q6 q7 N)
    · refine im_aload_n 62 108 rfl rfl ?_
      refine im_iload 63 109 rfl rfl ?_
      refine im_iload 64 111 rfl rfl ?_
      refine im_ci (S := []) (fun _ hv => cpV (fr' := 4) (lo' := 84) (i := 65) (As := [.int q8, .int p4]) (S := []) (a := p0) (c := 11) rfl lk_M_103 mw_M_defines mv_M_defines rfl ⟨by decide, rfl⟩ rfl rfl rfl (gd_some hv).1 (sp_M_defines G hv)) (fun x10 => ?_)
      refine im_jp (fun j141 => ∀ (x11 : Int32) (x12 : Int32) (M4 : mm_T), im_I mi_M_onlyDefinition 22 515 G M0 sw_i (j141 x11 x12 M4) 141 [some (.ref p0), some (.int p1), none, none, some (.int p4), some (.int p5), some (.int x11), some (.int x12), some (.int q8)] [] M4) ?_ (fun j141 hj141 => ?_)
      · intro x11 x12 M4
        show im_I mi_M_onlyDefinition 22 515 G M0 sw_i (_) 141 [some (.ref p0), some (.int p1), none, none, some (.int p4), some (.int p5), some (.int x11), some (.int x12), some (.int q8)] [] M4
        refine im_iincL 77 141 (fun x13 => [some (.ref p0), some (.int p1), none, none, some (.int p4), some (.int p5), some (.int x11), some (.int x12), some (.int x13)]) rfl rfl rfl rfl (fun _ => rfl) (fun x13 => ?_)
        refine im_goto 78 144 98 rfl (by decide) ?_
        exact im_less _ (by simp [lv_le]) (ih x11 x12 x13 M4)
      refine im_if_eq 66 116 141 rfl (by decide) ?_ ?_
      · exact im_less _ (by simp [lv_le]) (hj141 q6 q7 N)
      · refine im_aload_n 67 119 rfl rfl ?_
        refine im_iload 68 120 rfl rfl ?_
        refine im_iload 69 122 rfl rfl ?_
        refine im_iload_n 70 124 rfl rfl ?_
        refine im_cWi (S := []) (fun _ _ hv => cpV (fr' := 21) (lo' := 491) (i := 71) (As := [.int q8, .int p5, .int p1]) (S := []) (a := p0) (c := 11) rfl lk_M_338 mw_M_reachesPlace mv_M_reachesPlace rfl ⟨by decide, rfl⟩ rfl rfl rfl (gd_some hv).1 (sp_M_reachesPlace G hv)) (fun x14 M5 => ?_)
        refine im_if_ne 72 128 134 rfl (by decide) ?_ ?_
        · refine im_iload 74 134 rfl rfl ?_
          refine im_istore 75 136 [some (.ref p0), some (.int p1), none, none, some (.int p4), some (.int p5), some (.int q8), some (.int q7), some (.int q8)] rfl rfl rfl ?_
          refine im_iincL 76 138 (fun x15 => [some (.ref p0), some (.int p1), none, none, some (.int p4), some (.int p5), some (.int q8), some (.int x15), some (.int q8)]) rfl rfl rfl rfl (fun _ => rfl) (fun x15 => ?_)
          exact im_less _ (by simp [lv_le]) (hj141 q8 x15 M5)
        · refine im_goto 73 131 141 rfl (by decide) ?_
          exact im_less _ (by simp [lv_le]) (hj141 q6 q7 M5)

set_option maxRecDepth 100000 in
set_option maxHeartbeats 4000000 in
theorem ip_M_onlyDefinition (G : gl_T) (t : Nat) (a1 : Int32) (a2 : Int32) (M : mm_T) : im_I mi_M_onlyDefinition 22 515 G M sw_i (ff_M_onlyDefinition t a1 a2 M) 0 [some (.ref t), some (.int a1), some (.int a2), none, none, none, none, none, none] [] M := by
  unfold ff_M_onlyDefinition
  refine im_gd (fun hg => ?_)
  refine im_aload_n 0 0 rfl rfl ?_
  refine im_iload_n 1 1 rfl rfl ?_
  refine im_cWi (S := []) (fun _ _ hv => cpV (fr' := 2) (lo' := 42) (i := 2) (As := [.int a1]) (S := []) (a := t) (c := 11) rfl lk_M_332 mw_M_isItem mv_M_isItem rfl ⟨by decide, rfl⟩ rfl rfl rfl (gd_some hv).1 (sp_M_isItem G hv)) (fun x1 M1 => ?_)
  refine im_if_ne 3 5 10 rfl (by decide) ?_ ?_
  · refine im_aload_n 6 10 rfl rfl ?_
    refine im_iload_n 7 11 rfl rfl ?_
    refine im_iconst 8 12 rfl rfl ?_
    refine im_ci (S := []) (fun _ hv => cpV (fr' := 2) (lo' := 41) (i := 9) (As := [.int a1, .int (0 : Int32)]) (S := []) (a := t) (c := 11) rfl lk_M_96 mw_M_it mv_M_it rfl ⟨by decide, rfl⟩ rfl rfl rfl (gd_some hv).1 (sp_M_it G hv)) (fun x2 => ?_)
    refine im_iconst 10 16 rfl rfl ?_
    refine im_jp (fun j38 => ∀ (x3 : Int32), im_I mi_M_onlyDefinition 22 515 G M sw_i (j38 x3) 38 [some (.ref t), some (.int a1), some (.int a2), none, none, none, none, none, none] [.int x3] M1) ?_ (fun j38 hj38 => ?_)
    · intro x3
      show im_I mi_M_onlyDefinition 22 515 G M sw_i (_) 38 [some (.ref t), some (.int a1), some (.int a2), none, none, none, none, none, none] [.int x3] M1
      refine im_istore_n 22 38 [some (.ref t), some (.int a1), some (.int a2), some (.int x3), none, none, none, none, none] rfl rfl rfl ?_
      refine im_iload_n 23 39 rfl rfl ?_
      refine im_jp (fun j48 => im_I mi_M_onlyDefinition 22 515 G M sw_i (j48) 48 [some (.ref t), none, none, none, none, none, none, none, none] [] M1) ?_ (fun j48 hj48 => ?_)
      · show im_I mi_M_onlyDefinition 22 515 G M sw_i (_) 48 [some (.ref t), none, none, none, none, none, none, none, none] [] M1
        refine im_aload_n 28 48 rfl rfl ?_
        refine im_iconst 29 49 rfl rfl ?_
        refine im_putI 30 50 rfl fd_M_55 (Or.inl (by decide +kernel)) (by decide +kernel) (fun M2 => ?_)
        refine im_iconst 31 53 rfl rfl ?_
        exact im_end rfl (wp_ireturn 32 54 rfl rfl)
      refine im_if_lt 24 40 48 rfl (by decide) ?_ ?_
      · exact im_less _ (by simp [lv_le]) (hj48)
      · refine im_iload_n 25 43 rfl rfl ?_
        refine im_iload_n 26 44 rfl rfl ?_
        refine im_ic_lt 27 45 55 rfl (by decide) ?_ ?_
        · refine im_aload_n 33 55 rfl rfl ?_
          refine im_iload_n 34 56 rfl rfl ?_
          refine im_iload_n 35 57 rfl rfl ?_
          refine im_jp (fun j66 => ∀ (x4 : Int32), im_I mi_M_onlyDefinition 22 515 G M sw_i (j66 x4) 66 [some (.ref t), some (.int a1), none, none, none, none, none, none, none] [.int x4, .int a1, .ref t] M1) ?_ (fun j66 hj66 => ?_)
          · intro x4
            show im_I mi_M_onlyDefinition 22 515 G M sw_i (_) 66 [some (.ref t), some (.int a1), none, none, none, none, none, none, none] [.int x4, .int a1, .ref t] M1
            refine im_ci (S := []) (fun _ hv => cpV (fr' := 2) (lo' := 41) (i := 40) (As := [.int a1, .int x4]) (S := []) (a := t) (c := 11) rfl lk_M_96 mw_M_it mv_M_it rfl ⟨by decide, rfl⟩ rfl rfl rfl (gd_some hv).1 (sp_M_it G hv)) (fun x5 => ?_)
            refine im_istore 41 69 [some (.ref t), some (.int a1), none, none, some (.int x5), none, none, none, none] rfl rfl rfl ?_
            refine im_aload_n 42 71 rfl rfl ?_
            refine im_iload_n 43 72 rfl rfl ?_
            refine im_ci (S := []) (fun _ hv => cpV (fr' := 5) (lo' := 107) (i := 44) (As := [.int a1]) (S := []) (a := t) (c := 11) rfl lk_M_121 mw_M_blockAt mv_M_blockAt rfl ⟨by decide, rfl⟩ rfl rfl rfl (gd_some hv).1 (sp_M_blockAt G hv)) (fun x6 => ?_)
            refine im_istore 45 76 [some (.ref t), some (.int a1), none, none, some (.int x5), some (.int x6), none, none, none] rfl rfl rfl ?_
            refine im_iconst 46 78 rfl rfl ?_
            refine im_istore 47 79 [some (.ref t), some (.int a1), none, none, some (.int x5), some (.int x6), some (.int (-1 : Int32)), none, none] rfl rfl rfl ?_
            refine im_aload_n 48 81 rfl rfl ?_
            refine im_iload 49 82 rfl rfl ?_
            refine im_iload_n 50 84 rfl rfl ?_
            refine im_iload 51 85 rfl rfl ?_
            refine im_cWi (S := []) (fun _ _ hv => cpV (fr' := 21) (lo' := 488) (i := 52) (As := [.int x6, .int a1, .int x5]) (S := []) (a := t) (c := 11) rfl lk_M_341 mw_M_isFirstAtPlace mv_M_isFirstAtPlace rfl ⟨by decide, rfl⟩ rfl rfl rfl (gd_some hv).1 (sp_M_isFirstAtPlace G hv)) (fun x7 M3 => ?_)
            refine im_ci (S := []) (fun _ hv => cpS (fr' := 1) (lo' := 20) (i := 53) (As := [.int x7]) (S := []) rfl lk_M_117 mw_M_one mv_M_one rfl rfl rfl rfl (sp_M_one G hv)) (fun x8 => ?_)
            refine im_istore 54 93 [some (.ref t), some (.int a1), none, none, some (.int x5), some (.int x6), some (.int (-1 : Int32)), some (.int x8), none] rfl rfl rfl ?_
            refine im_iconst 55 95 rfl rfl ?_
            refine im_istore 56 96 [some (.ref t), some (.int a1), none, none, some (.int x5), some (.int x6), some (.int (-1 : Int32)), some (.int x8), some (.int (0 : Int32))] rfl rfl rfl ?_
            refine im_less [some (.ref t), some (.int a1), none, none, some (.int x5), some (.int x6), some (.int (-1 : Int32)), some (.int x8), some (.int (0 : Int32))] (by simp [lv_le]) ?_
            refine li_M_onlyDefinition_98 G M _ t a1 x5 x6 ?_ fu_L (-1 : Int32) x8 (0 : Int32) M3
            · intro x16 x17 M6
              show im_I mi_M_onlyDefinition 22 515 G M sw_i (_) 147 [none, none, none, none, none, none, some (.int x16), some (.int x17), none] [] M6
              refine im_iload 79 147 rfl rfl ?_
              refine im_iconst 80 149 rfl rfl ?_
              refine im_ic_ne 81 150 158 rfl (by decide) ?_ ?_
              · refine im_iconst 84 158 rfl rfl ?_
                exact im_end rfl (wp_ireturn 85 159 rfl rfl)
              · refine im_iload 82 153 rfl rfl ?_
                refine im_goto 83 155 159 rfl (by decide) ?_
                exact im_end rfl (wp_ireturn 85 159 rfl rfl)
          refine im_if_ne 36 58 65 rfl (by decide) ?_ ?_
          · refine im_iconst 39 65 rfl rfl ?_
            exact im_less _ (by simp [lv_le]) (hj66 (4 : Int32))
          · refine im_iconst 37 61 rfl rfl ?_
            refine im_goto 38 62 66 rfl (by decide) ?_
            exact im_less _ (by simp [lv_le]) (hj66 (2 : Int32))
        · exact im_less _ (by simp [lv_le]) (hj48)
    refine im_ic_ne 11 17 24 rfl (by decide) ?_ ?_
    · refine im_aload_n 14 24 rfl rfl ?_
      refine im_iload_n 15 25 rfl rfl ?_
      refine im_iconst 16 26 rfl rfl ?_
      refine im_ci (S := []) (fun _ hv => cpV (fr' := 2) (lo' := 41) (i := 17) (As := [.int a1, .int (0 : Int32)]) (S := []) (a := t) (c := 11) rfl lk_M_96 mw_M_it mv_M_it rfl ⟨by decide, rfl⟩ rfl rfl rfl (gd_some hv).1 (sp_M_it G hv)) (fun x18 => ?_)
      refine im_if_ne 18 30 37 rfl (by decide) ?_ ?_
      · refine im_iconst 21 37 rfl rfl ?_
        exact im_less _ (by simp [lv_le]) (hj38 (1 : Int32))
      · refine im_iconst 19 33 rfl rfl ?_
        refine im_goto 20 34 38 rfl (by decide) ?_
        exact im_less _ (by simp [lv_le]) (hj38 (0 : Int32))
    · refine im_iconst 12 20 rfl rfl ?_
      refine im_goto 13 21 38 rfl (by decide) ?_
      exact im_less _ (by simp [lv_le]) (hj38 (2 : Int32))
  · refine im_iconst 4 8 rfl rfl ?_
    exact im_end rfl (wp_ireturn 5 9 rfl rfl)

theorem sp_M_onlyDefinition (G : gl_T) {t : Nat} {a1 : Int32} {a2 : Int32} {M : mm_T} {y : Int32 × mm_T} (h : ff_M_onlyDefinition t a1 a2 M = some y) : sp_S mi_M_onlyDefinition 22 515 G [.ref t, .int a1, .int a2] M (sw_i y).1 (sw_i y).2 := sp_of mo_M_onlyDefinition mw_M_onlyDefinition (Or.inl (by decide +kernel)) rfl rfl (Or.inl rfl) (ip_M_onlyDefinition G t a1 a2 M y h)

set_option maxRecDepth 100000 in
set_option maxHeartbeats 4000000 in
theorem ip_M_isLiveIn (G : gl_T) (t : Nat) (a1 : Int32) (a2 : Int32) (M : mm_T) : im_I mi_M_isLiveIn 22 514 G M sw_i (ff_M_isLiveIn t a1 a2 M) 0 [some (.ref t), some (.int a1), some (.int a2)] [] M := by
  unfold ff_M_isLiveIn
  refine im_gd (fun hg => ?_)
  refine im_aload_n 0 0 rfl rfl ?_
  refine im_iload_n 1 1 rfl rfl ?_
  refine im_cWi (S := []) (fun _ _ hv => cpV (fr' := 2) (lo' := 42) (i := 2) (As := [.int a1]) (S := []) (a := t) (c := 11) rfl lk_M_329 mw_M_isBlock mv_M_isBlock rfl ⟨by decide, rfl⟩ rfl rfl rfl (gd_some hv).1 (sp_M_isBlock G hv)) (fun x1 M1 => ?_)
  refine im_if_eq 3 5 17 rfl (by decide) ?_ ?_
  · refine im_iconst 9 17 rfl rfl ?_
    exact im_end rfl (wp_zreturn 10 18 (ty := .boolean) rfl (by first | exact nz_0 | exact nz_1) rfl)
  · refine im_aload_n 4 8 rfl rfl ?_
    refine im_iload_n 5 9 rfl rfl ?_
    refine im_iconst 6 10 rfl rfl ?_
    refine im_cWi (S := []) (fun _ _ hv => cpV (fr' := 2) (lo' := 42) (i := 7) (As := [.int a2, .int (2 : Int32)]) (S := []) (a := t) (c := 11) rfl lk_M_335 mw_M_isVariable mv_M_isVariable rfl ⟨by decide, rfl⟩ rfl rfl rfl (gd_some hv).1 (sp_M_isVariable G hv)) (fun x2 M2 => ?_)
    refine im_if_ne 8 14 19 rfl (by decide) ?_ ?_
    · refine im_aload_n 11 19 rfl rfl ?_
      refine im_iload_n 12 20 rfl rfl ?_
      refine im_aload_n 13 21 rfl rfl ?_
      refine im_iload_n 14 22 rfl rfl ?_
      refine im_ci (S := [.int a1, .ref t]) (fun _ hv => cpV (fr' := 3) (lo' := 63) (i := 15) (As := [.int a1]) (S := [.int a1, .ref t]) (a := t) (c := 11) rfl lk_M_84 mw_M_firstOf mv_M_firstOf rfl ⟨by decide, rfl⟩ rfl rfl rfl (gd_some hv).1 (sp_M_firstOf G hv)) (fun x3 => ?_)
      refine im_iload_n 16 26 rfl rfl ?_
      refine im_cWi (S := []) (fun _ _ hv => cpV (fr' := 21) (lo' := 490) (i := 17) (As := [.int a1, .int x3, .int a2]) (S := []) (a := t) (c := 11) rfl lk_M_149 mw_M_isLiveAt mv_M_isLiveAt rfl ⟨by decide, rfl⟩ rfl rfl rfl (gd_some hv).1 (sp_M_isLiveAt G hv)) (fun x4 M3 => ?_)
      exact im_endZ (fun _ => rfl) (fun hn => wp_zreturn 18 30 (ty := .boolean) rfl hn rfl)
    · refine im_iconst 9 17 rfl rfl ?_
      exact im_end rfl (wp_zreturn 10 18 (ty := .boolean) rfl (by first | exact nz_0 | exact nz_1) rfl)

theorem sp_M_isLiveIn (G : gl_T) {t : Nat} {a1 : Int32} {a2 : Int32} {M : mm_T} {y : Int32 × mm_T} (h : ff_M_isLiveIn t a1 a2 M = some y) : sp_S mi_M_isLiveIn 22 514 G [.ref t, .int a1, .int a2] M (sw_i y).1 (sw_i y).2 := sp_of mo_M_isLiveIn mw_M_isLiveIn (Or.inl (by decide +kernel)) rfl rfl (Or.inl rfl) (ip_M_isLiveIn G t a1 a2 M y h)

set_option maxRecDepth 100000 in
set_option maxHeartbeats 4000000 in
theorem ip_M_isLiveOut (G : gl_T) (t : Nat) (a1 : Int32) (a2 : Int32) (M : mm_T) : im_I mi_M_isLiveOut 21 490 G M sw_i (ff_M_isLiveOut t a1 a2 M) 0 [some (.ref t), some (.int a1), some (.int a2)] [] M := by
  unfold ff_M_isLiveOut
  refine im_gd (fun hg => ?_)
  refine im_aload_n 0 0 rfl rfl ?_
  refine im_iload_n 1 1 rfl rfl ?_
  refine im_cWi (S := []) (fun _ _ hv => cpV (fr' := 2) (lo' := 42) (i := 2) (As := [.int a1]) (S := []) (a := t) (c := 11) rfl lk_M_329 mw_M_isBlock mv_M_isBlock rfl ⟨by decide, rfl⟩ rfl rfl rfl (gd_some hv).1 (sp_M_isBlock G hv)) (fun x1 M1 => ?_)
  refine im_if_eq 3 5 17 rfl (by decide) ?_ ?_
  · refine im_iconst 9 17 rfl rfl ?_
    exact im_end rfl (wp_zreturn 10 18 (ty := .boolean) rfl (by first | exact nz_0 | exact nz_1) rfl)
  · refine im_aload_n 4 8 rfl rfl ?_
    refine im_iload_n 5 9 rfl rfl ?_
    refine im_iconst 6 10 rfl rfl ?_
    refine im_cWi (S := []) (fun _ _ hv => cpV (fr' := 2) (lo' := 42) (i := 7) (As := [.int a2, .int (2 : Int32)]) (S := []) (a := t) (c := 11) rfl lk_M_335 mw_M_isVariable mv_M_isVariable rfl ⟨by decide, rfl⟩ rfl rfl rfl (gd_some hv).1 (sp_M_isVariable G hv)) (fun x2 M2 => ?_)
    refine im_if_ne 8 14 19 rfl (by decide) ?_ ?_
    · refine im_aload_n 11 19 rfl rfl ?_
      refine im_iload_n 12 20 rfl rfl ?_
      refine im_iload_n 13 21 rfl rfl ?_
      refine im_cWi (S := []) (fun _ _ hv => cpV (fr' := 20) (lo' := 467) (i := 14) (As := [.int a1, .int a2]) (S := []) (a := t) (c := 11) rfl lk_M_146 mw_M_isLiveBehind mv_M_isLiveBehind rfl ⟨by decide, rfl⟩ rfl rfl rfl (gd_some hv).1 (sp_M_isLiveBehind G hv)) (fun x3 M3 => ?_)
      exact im_endZ (fun _ => rfl) (fun hn => wp_zreturn 15 25 (ty := .boolean) rfl hn rfl)
    · refine im_iconst 9 17 rfl rfl ?_
      exact im_end rfl (wp_zreturn 10 18 (ty := .boolean) rfl (by first | exact nz_0 | exact nz_1) rfl)

theorem sp_M_isLiveOut (G : gl_T) {t : Nat} {a1 : Int32} {a2 : Int32} {M : mm_T} {y : Int32 × mm_T} (h : ff_M_isLiveOut t a1 a2 M = some y) : sp_S mi_M_isLiveOut 21 490 G [.ref t, .int a1, .int a2] M (sw_i y).1 (sw_i y).2 := sp_of mo_M_isLiveOut mw_M_isLiveOut (Or.inl (by decide +kernel)) rfl rfl (Or.inl rfl) (ip_M_isLiveOut G t a1 a2 M y h)

set_option maxRecDepth 100000 in
set_option maxHeartbeats 4000000 in
theorem ip_M_liveBefore (G : gl_T) (t : Nat) (a1 : Int32) (M : mm_T) : im_I mi_M_liveBefore 23 538 G M sw_i (ff_M_liveBefore t a1 M) 0 [some (.ref t), some (.int a1)] [] M := by
  unfold ff_M_liveBefore
  refine im_gd (fun hg => ?_)
  refine im_aload_n 0 0 rfl rfl ?_
  refine im_iload_n 1 1 rfl rfl ?_
  refine im_cWi (S := []) (fun _ _ hv => cpV (fr' := 2) (lo' := 42) (i := 2) (As := [.int a1]) (S := []) (a := t) (c := 11) rfl lk_M_332 mw_M_isItem mv_M_isItem rfl ⟨by decide, rfl⟩ rfl rfl rfl (gd_some hv).1 (sp_M_isItem G hv)) (fun x1 M1 => ?_)
  refine im_if_ne 3 5 10 rfl (by decide) ?_ ?_
  · refine im_aload_n 6 10 rfl rfl ?_
    refine im_aload_n 7 11 rfl rfl ?_
    refine im_iload_n 8 12 rfl rfl ?_
    refine im_ci (S := [.ref t]) (fun _ hv => cpV (fr' := 5) (lo' := 107) (i := 9) (As := [.int a1]) (S := [.ref t]) (a := t) (c := 11) rfl lk_M_121 mw_M_blockAt mv_M_blockAt rfl ⟨by decide, rfl⟩ rfl rfl rfl (gd_some hv).1 (sp_M_blockAt G hv)) (fun x2 => ?_)
    refine im_iload_n 10 16 rfl rfl ?_
    refine im_cWi (S := []) (fun _ _ hv => cpV (fr' := 22) (lo' := 514) (i := 11) (As := [.int x2, .int a1]) (S := []) (a := t) (c := 11) rfl lk_M_344 mw_M_liveAt mv_M_liveAt rfl ⟨by decide, rfl⟩ rfl rfl rfl (gd_some hv).1 (sp_M_liveAt G hv)) (fun x3 M2 => ?_)
    exact im_end rfl (wp_ireturn 12 20 rfl rfl)
  · refine im_iconst 4 8 rfl rfl ?_
    exact im_end rfl (wp_ireturn 5 9 rfl rfl)

theorem sp_M_liveBefore (G : gl_T) {t : Nat} {a1 : Int32} {M : mm_T} {y : Int32 × mm_T} (h : ff_M_liveBefore t a1 M = some y) : sp_S mi_M_liveBefore 23 538 G [.ref t, .int a1] M (sw_i y).1 (sw_i y).2 := sp_of mo_M_liveBefore mw_M_liveBefore (Or.inl (by decide +kernel)) rfl rfl (Or.inl rfl) (ip_M_liveBefore G t a1 M y h)

set_option maxRecDepth 100000 in
set_option maxHeartbeats 4000000 in
theorem ip_M_isDead (G : gl_T) (t : Nat) (a1 : Int32) (M : mm_T) : im_I mi_M_isDead 23 535 G M sw_i (ff_M_isDead t a1 M) 0 [some (.ref t), some (.int a1)] [] M := by
  unfold ff_M_isDead
  refine im_gd (fun hg => ?_)
  refine im_aload_n 0 0 rfl rfl ?_
  refine im_iload_n 1 1 rfl rfl ?_
  refine im_cWi (S := []) (fun _ _ hv => cpV (fr' := 2) (lo' := 42) (i := 2) (As := [.int a1]) (S := []) (a := t) (c := 11) rfl lk_M_332 mw_M_isItem mv_M_isItem rfl ⟨by decide, rfl⟩ rfl rfl rfl (gd_some hv).1 (sp_M_isItem G hv)) (fun x1 M1 => ?_)
  refine im_if_ne 3 5 10 rfl (by decide) ?_ ?_
  · refine im_aload_n 6 10 rfl rfl ?_
    refine im_iload_n 7 11 rfl rfl ?_
    refine im_cWi (S := []) (fun _ _ hv => cpV (fr' := 22) (lo' := 514) (i := 8) (As := [.int a1]) (S := []) (a := t) (c := 11) rfl lk_M_347 mw_M_isDead0 mv_M_isDead0 rfl ⟨by decide, rfl⟩ rfl rfl rfl (gd_some hv).1 (sp_M_isDead0 G hv)) (fun x2 M2 => ?_)
    exact im_endZ (fun _ => rfl) (fun hn => wp_zreturn 9 15 (ty := .boolean) rfl hn rfl)
  · refine im_iconst 4 8 rfl rfl ?_
    exact im_end rfl (wp_zreturn 5 9 (ty := .boolean) rfl (by first | exact nz_0 | exact nz_1) rfl)

theorem sp_M_isDead (G : gl_T) {t : Nat} {a1 : Int32} {M : mm_T} {y : Int32 × mm_T} (h : ff_M_isDead t a1 M = some y) : sp_S mi_M_isDead 23 535 G [.ref t, .int a1] M (sw_i y).1 (sw_i y).2 := sp_of mo_M_isDead mw_M_isDead (Or.inl (by decide +kernel)) rfl rfl (Or.inl rfl) (ip_M_isDead G t a1 M y h)

set_option maxRecDepth 100000 in
set_option maxHeartbeats 4000000 in
theorem li_M_allDead_4 (G : gl_T) (M0 : mm_T) (p0 : Nat) : ∀ (fu : Nat) (q1 : Int32) (q2 : Int32) (N : mm_T), im_I mi_M_allDead 23 535 G M0 sw_i (lf_M_allDead_4 p0 fu q1 q2 N) 4 [some (.ref p0), some (.int q1), some (.int q2)] [] N := by
  intro fu
  induction fu with
  | zero => intro _ _ _; exact im_none
  | succ fu ih =>
    intro q1 q2 N
    show im_I mi_M_allDead 23 535 G M0 sw_i (lb_M_allDead_4 p0 (lf_M_allDead_4 p0 fu) q1 q2 N) 4 [some (.ref p0), some (.int q1), some (.int q2)] [] N
    unfold lb_M_allDead_4
    refine im_iload_n 4 4 rfl rfl ?_
    refine im_aload_n 5 5 rfl rfl ?_
    refine im_iconst 6 6 rfl rfl ?_
    refine im_ci (S := [.int q2]) (fun _ hv => cpV (fr' := 1) (lo' := 20) (i := 7) (As := [.int (1 : Int32)]) (S := [.int q2]) (a := p0) (c := 11) rfl lk_M_61 mw_M_get mv_M_get rfl ⟨by decide, rfl⟩ rfl rfl rfl (gd_some hv).1 (sp_M_get G hv)) (fun x1 => ?_)
    refine im_ic_ge 8 10 30 rfl (by decide) ?_ ?_
    · refine im_iload_n 18 30 rfl rfl ?_
      exact im_end rfl (wp_ireturn 19 31 rfl rfl)
    · refine im_iload_n 9 13 rfl rfl ?_
      refine im_aload_n 10 14 rfl rfl ?_
      refine im_iload_n 11 15 rfl rfl ?_
      refine im_cWi (S := [.int q1]) (fun _ _ hv => cpV (fr' := 22) (lo' := 514) (i := 12) (As := [.int q2]) (S := [.int q1]) (a := p0) (c := 11) rfl lk_M_347 mw_M_isDead0 mv_M_isDead0 rfl ⟨by decide, rfl⟩ rfl rfl rfl (gd_some hv).1 (sp_M_isDead0 G hv)) (fun x2 M1 => ?_)
      refine im_ci (S := [.int q1]) (fun _ hv => cpS (fr' := 1) (lo' := 20) (i := 13) (As := [.int x2]) (S := [.int q1]) rfl lk_M_117 mw_M_one mv_M_one rfl rfl rfl rfl (sp_M_one G hv)) (fun x3 => ?_)
      refine im_iadd 14 22 rfl ?_
      refine im_letI (fun x4 => ?_)
      refine im_istore_n 15 23 [some (.ref p0), some (.int x4), some (.int q2)] rfl rfl rfl ?_
      refine im_iincL 16 24 (fun x5 => [some (.ref p0), some (.int x4), some (.int x5)]) rfl rfl rfl rfl (fun _ => rfl) (fun x5 => ?_)
      refine im_goto 17 27 4 rfl (by decide) ?_
      exact im_less _ (by simp [lv_le]) (ih x4 x5 M1)

set_option maxRecDepth 100000 in
set_option maxHeartbeats 4000000 in
theorem ip_M_allDead (G : gl_T) (t : Nat) (M : mm_T) : im_I mi_M_allDead 23 535 G M sw_i (ff_M_allDead t M) 0 [some (.ref t), none, none] [] M := by
  unfold ff_M_allDead
  refine im_gd (fun hg => ?_)
  refine im_iconst 0 0 rfl rfl ?_
  refine im_istore_n 1 1 [some (.ref t), some (.int (0 : Int32)), none] rfl rfl rfl ?_
  refine im_iconst 2 2 rfl rfl ?_
  refine im_istore_n 3 3 [some (.ref t), some (.int (0 : Int32)), some (.int (0 : Int32))] rfl rfl rfl ?_
  refine im_less [some (.ref t), some (.int (0 : Int32)), some (.int (0 : Int32))] (by simp [lv_le]) ?_
  exact li_M_allDead_4 G M t fu_L (0 : Int32) (0 : Int32) M

theorem sp_M_allDead (G : gl_T) {t : Nat} {M : mm_T} {y : Int32 × mm_T} (h : ff_M_allDead t M = some y) : sp_S mi_M_allDead 23 535 G [.ref t] M (sw_i y).1 (sw_i y).2 := sp_of mo_M_allDead mw_M_allDead (Or.inl (by decide +kernel)) rfl rfl (Or.inl rfl) (ip_M_allDead G t M y h)

set_option maxRecDepth 100000 in
set_option maxHeartbeats 4000000 in
theorem ip_M_deadDefinitions (G : gl_T) (t : Nat) (M : mm_T) : im_I mi_M_deadDefinitions 24 557 G M sw_i (ff_M_deadDefinitions t M) 0 [some (.ref t)] [] M := by
  unfold ff_M_deadDefinitions
  refine im_gd (fun hg => ?_)
  refine im_aload_n 0 0 rfl rfl ?_
  refine im_iconst 1 1 rfl rfl ?_
  refine im_putI 2 2 rfl fd_M_55 (Or.inl (by decide +kernel)) (by decide +kernel) (fun M1 => ?_)
  refine im_aload_n 3 5 rfl rfl ?_
  refine im_cWi (S := []) (fun _ _ hv => cpV (fr' := 23) (lo' := 535) (i := 4) (As := []) (S := []) (a := t) (c := 11) rfl lk_M_350 mw_M_allDead mv_M_allDead rfl ⟨by decide, rfl⟩ rfl rfl rfl (gd_some hv).1 (sp_M_allDead G hv)) (fun x1 M2 => ?_)
  exact im_end rfl (wp_ireturn 5 9 rfl rfl)

theorem sp_M_deadDefinitions (G : gl_T) {t : Nat} {M : mm_T} {y : Int32 × mm_T} (h : ff_M_deadDefinitions t M = some y) : sp_S mi_M_deadDefinitions 24 557 G [.ref t] M (sw_i y).1 (sw_i y).2 := sp_of mo_M_deadDefinitions mw_M_deadDefinitions (Or.inl (by decide +kernel)) rfl rfl (Or.inl rfl) (ip_M_deadDefinitions G t M y h)

set_option maxRecDepth 100000 in
set_option maxHeartbeats 4000000 in
theorem li_M_pressure_24 (G : gl_T) (M0 : mm_T) (k0 : Int32 → mm_T → Option (Int32 × mm_T)) (p0 : Nat) (p2 : Int32) (hk0 : ∀ (z1 : Int32) (N : mm_T), im_I mi_M_pressure 23 538 G M0 sw_i (k0 z1 N) 50 [some (.ref p0), some (.int z1), some (.int p2), none] [] N) : ∀ (fu : Nat) (q1 : Int32) (q3 : Int32) (N : mm_T), im_I mi_M_pressure 23 538 G M0 sw_i (lf_M_pressure_24 k0 p0 p2 fu q1 q3 N) 24 [some (.ref p0), some (.int q1), some (.int p2), some (.int q3)] [] N := by
  intro fu
  induction fu with
  | zero => intro _ _ _; exact im_none
  | succ fu ih =>
    intro q1 q3 N
    show im_I mi_M_pressure 23 538 G M0 sw_i (lb_M_pressure_24 k0 p0 p2 (lf_M_pressure_24 k0 p0 p2 fu) q1 q3 N) 24 [some (.ref p0), some (.int q1), some (.int p2), some (.int q3)] [] N
    unfold lb_M_pressure_24
    refine im_iload_n 16 24 rfl rfl ?_
    refine im_aload_n 17 25 rfl rfl ?_
    refine im_iload_n 18 26 rfl rfl ?_
    refine im_ci (S := [.int q3]) (fun _ hv => cpV (fr' := 4) (lo' := 86) (i := 19) (As := [.int p2]) (S := [.int q3]) (a := p0) (c := 11) rfl lk_M_87 mw_M_endOf mv_M_endOf rfl ⟨by decide, rfl⟩ rfl rfl rfl (gd_some hv).1 (sp_M_endOf G hv)) (fun x3 => ?_)
    refine im_ic_gt 20 30 50 rfl (by decide) ?_ ?_
    · exact im_less _ (by simp [lv_le]) (hk0 q1 N)
    · refine im_iload_n 21 33 rfl rfl ?_
      refine im_aload_n 22 34 rfl rfl ?_
      refine im_iload_n 23 35 rfl rfl ?_
      refine im_iload_n 24 36 rfl rfl ?_
      refine im_cWi (S := [.int q1]) (fun _ _ hv => cpV (fr' := 22) (lo' := 514) (i := 25) (As := [.int p2, .int q3]) (S := [.int q1]) (a := p0) (c := 11) rfl lk_M_344 mw_M_liveAt mv_M_liveAt rfl ⟨by decide, rfl⟩ rfl rfl rfl (gd_some hv).1 (sp_M_liveAt G hv)) (fun x4 M2 => ?_)
      refine im_ci (S := []) (fun _ hv => cpS (fr' := 1) (lo' := 20) (i := 26) (As := [.int q1, .int x4]) (S := []) rfl lk_M_199 mw_JM_max mv_JM_max rfl rfl rfl rfl (sp_JM_max G hv)) (fun x5 => ?_)
      refine im_istore_n 27 43 [some (.ref p0), some (.int x5), some (.int p2), some (.int q3)] rfl rfl rfl ?_
      refine im_iincL 28 44 (fun x6 => [some (.ref p0), some (.int x5), some (.int p2), some (.int x6)]) rfl rfl rfl rfl (fun _ => rfl) (fun x6 => ?_)
      refine im_goto 29 47 24 rfl (by decide) ?_
      exact im_less _ (by simp [lv_le]) (ih x5 x6 M2)

set_option maxRecDepth 100000 in
set_option maxHeartbeats 4000000 in
theorem li_M_pressure_9 (G : gl_T) (M0 : mm_T) (p0 : Nat) : ∀ (fu : Nat) (q1 : Int32) (q2 : Int32) (N : mm_T), im_I mi_M_pressure 23 538 G M0 sw_i (lf_M_pressure_9 p0 fu q1 q2 N) 9 [some (.ref p0), some (.int q1), some (.int q2), none] [] N := by
  intro fu
  induction fu with
  | zero => intro _ _ _; exact im_none
  | succ fu ih =>
    intro q1 q2 N
    show im_I mi_M_pressure 23 538 G M0 sw_i (lb_M_pressure_9 p0 (lf_M_pressure_9 p0 fu) q1 q2 N) 9 [some (.ref p0), some (.int q1), some (.int q2), none] [] N
    unfold lb_M_pressure_9
    refine im_iload_n 7 9 rfl rfl ?_
    refine im_aload_n 8 10 rfl rfl ?_
    refine im_iconst 9 11 rfl rfl ?_
    refine im_ci (S := [.int q2]) (fun _ hv => cpV (fr' := 1) (lo' := 20) (i := 10) (As := [.int (0 : Int32)]) (S := [.int q2]) (a := p0) (c := 11) rfl lk_M_61 mw_M_get mv_M_get rfl ⟨by decide, rfl⟩ rfl rfl rfl (gd_some hv).1 (sp_M_get G hv)) (fun x1 => ?_)
    refine im_ic_ge 11 15 56 rfl (by decide) ?_ ?_
    · refine im_iload_n 32 56 rfl rfl ?_
      exact im_end rfl (wp_ireturn 33 57 rfl rfl)
    · refine im_aload_n 12 18 rfl rfl ?_
      refine im_iload_n 13 19 rfl rfl ?_
      refine im_ci (S := []) (fun _ hv => cpV (fr' := 3) (lo' := 63) (i := 14) (As := [.int q2]) (S := []) (a := p0) (c := 11) rfl lk_M_84 mw_M_firstOf mv_M_firstOf rfl ⟨by decide, rfl⟩ rfl rfl rfl (gd_some hv).1 (sp_M_firstOf G hv)) (fun x2 => ?_)
      refine im_istore_n 15 23 [some (.ref p0), some (.int q1), some (.int q2), some (.int x2)] rfl rfl rfl ?_
      refine im_less [some (.ref p0), some (.int q1), some (.int q2), some (.int x2)] (by simp [lv_le]) ?_
      refine li_M_pressure_24 G M0 _ p0 q2 ?_ fu_L q1 x2 N
      · intro x7 M3
        show im_I mi_M_pressure 23 538 G M0 sw_i (_) 50 [some (.ref p0), some (.int x7), some (.int q2), none] [] M3
        refine im_iincL 30 50 (fun x8 => [some (.ref p0), some (.int x7), some (.int x8), none]) rfl rfl rfl rfl (fun _ => rfl) (fun x8 => ?_)
        refine im_goto 31 53 9 rfl (by decide) ?_
        exact im_less _ (by simp [lv_le]) (ih x7 x8 M3)

set_option maxRecDepth 100000 in
set_option maxHeartbeats 4000000 in
theorem ip_M_pressure (G : gl_T) (t : Nat) (M : mm_T) : im_I mi_M_pressure 23 538 G M sw_i (ff_M_pressure t M) 0 [some (.ref t), none, none, none] [] M := by
  unfold ff_M_pressure
  refine im_gd (fun hg => ?_)
  refine im_aload_n 0 0 rfl rfl ?_
  refine im_iconst 1 1 rfl rfl ?_
  refine im_putI 2 2 rfl fd_M_55 (Or.inl (by decide +kernel)) (by decide +kernel) (fun M1 => ?_)
  refine im_iconst 3 5 rfl rfl ?_
  refine im_istore_n 4 6 [some (.ref t), some (.int (0 : Int32)), none, none] rfl rfl rfl ?_
  refine im_iconst 5 7 rfl rfl ?_
  refine im_istore_n 6 8 [some (.ref t), some (.int (0 : Int32)), some (.int (0 : Int32)), none] rfl rfl rfl ?_
  refine im_less [some (.ref t), some (.int (0 : Int32)), some (.int (0 : Int32)), none] (by simp [lv_le]) ?_
  exact li_M_pressure_9 G M t fu_L (0 : Int32) (0 : Int32) M1

theorem sp_M_pressure (G : gl_T) {t : Nat} {M : mm_T} {y : Int32 × mm_T} (h : ff_M_pressure t M = some y) : sp_S mi_M_pressure 23 538 G [.ref t] M (sw_i y).1 (sw_i y).2 := sp_of mo_M_pressure mw_M_pressure (Or.inl (by decide +kernel)) rfl rfl (Or.inl rfl) (ip_M_pressure G t M y h)

set_option maxRecDepth 100000 in
set_option maxHeartbeats 4000000 in
theorem li_M_hinders_2 (G : gl_T) (M0 : mm_T) (p0 : Nat) (p1 : Int32) (p2 : Int32) : ∀ (fu : Nat) (q3 : Int32) (N : mm_T), im_I mi_M_hinders 22 514 G M0 sw_i (lf_M_hinders_2 p0 p1 p2 fu q3 N) 2 [some (.ref p0), some (.int p1), some (.int p2), some (.int q3)] [] N := by
  intro fu
  induction fu with
  | zero => intro _ _; exact im_none
  | succ fu ih =>
    intro q3 N
    show im_I mi_M_hinders 22 514 G M0 sw_i (lb_M_hinders_2 p0 p1 p2 (lf_M_hinders_2 p0 p1 p2 fu) q3 N) 2 [some (.ref p0), some (.int p1), some (.int p2), some (.int q3)] [] N
    unfold lb_M_hinders_2
    refine im_iload_n 2 2 rfl rfl ?_
    refine im_aload_n 3 3 rfl rfl ?_
    refine im_iconst 4 4 rfl rfl ?_
    refine im_ci (S := [.int q3]) (fun _ hv => cpV (fr' := 1) (lo' := 20) (i := 5) (As := [.int (1 : Int32)]) (S := [.int q3]) (a := p0) (c := 11) rfl lk_M_61 mw_M_get mv_M_get rfl ⟨by decide, rfl⟩ rfl rfl rfl (gd_some hv).1 (sp_M_get G hv)) (fun x1 => ?_)
    refine im_ic_ge 6 8 67 rfl (by decide) ?_ ?_
    · refine im_iconst 39 67 rfl rfl ?_
      exact im_end rfl (wp_zreturn 40 68 (ty := .boolean) rfl (by first | exact nz_0 | exact nz_1) rfl)
    · refine im_aload_n 7 11 rfl rfl ?_
      refine im_iload_n 8 12 rfl rfl ?_
      refine im_iload_n 9 13 rfl rfl ?_
      refine im_ci (S := []) (fun _ hv => cpV (fr' := 4) (lo' := 84) (i := 10) (As := [.int q3, .int p1]) (S := []) (a := p0) (c := 11) rfl lk_M_103 mw_M_defines mv_M_defines rfl ⟨by decide, rfl⟩ rfl rfl rfl (gd_some hv).1 (sp_M_defines G hv)) (fun x2 => ?_)
      refine im_jp (fun j61 => ∀  (M1 : mm_T), im_I mi_M_hinders 22 514 G M0 sw_i (j61 M1) 61 [some (.ref p0), some (.int p1), some (.int p2), some (.int q3)] [] M1) ?_ (fun j61 hj61 => ?_)
      · intro M1
        show im_I mi_M_hinders 22 514 G M0 sw_i (_) 61 [some (.ref p0), some (.int p1), some (.int p2), some (.int q3)] [] M1
        refine im_iincL 37 61 (fun x3 => [some (.ref p0), some (.int p1), some (.int p2), some (.int x3)]) rfl rfl rfl rfl (fun _ => rfl) (fun x3 => ?_)
        refine im_goto 38 64 2 rfl (by decide) ?_
        exact im_less _ (by simp [lv_le]) (ih x3 M1)
      refine im_if_eq 11 17 61 rfl (by decide) ?_ ?_
      · exact im_less _ (by simp [lv_le]) (hj61 N)
      · refine im_aload_n 12 20 rfl rfl ?_
        refine im_iload_n 13 21 rfl rfl ?_
        refine im_iconst 14 22 rfl rfl ?_
        refine im_ci (S := []) (fun _ hv => cpV (fr' := 2) (lo' := 41) (i := 15) (As := [.int q3, .int (0 : Int32)]) (S := []) (a := p0) (c := 11) rfl lk_M_96 mw_M_it mv_M_it rfl ⟨by decide, rfl⟩ rfl rfl rfl (gd_some hv).1 (sp_M_it G hv)) (fun x4 => ?_)
        refine im_iconst 16 26 rfl rfl ?_
        refine im_jp (fun j43 => im_I mi_M_hinders 22 514 G M0 sw_i (j43) 43 [some (.ref p0), some (.int p1), some (.int p2), some (.int q3)] [] N) ?_ (fun j43 hj43 => ?_)
        · show im_I mi_M_hinders 22 514 G M0 sw_i (_) 43 [some (.ref p0), some (.int p1), some (.int p2), some (.int q3)] [] N
          refine im_aload_n 25 43 rfl rfl ?_
          refine im_aload_n 26 44 rfl rfl ?_
          refine im_iload_n 27 45 rfl rfl ?_
          refine im_ci (S := [.ref p0]) (fun _ hv => cpV (fr' := 5) (lo' := 107) (i := 28) (As := [.int q3]) (S := [.ref p0]) (a := p0) (c := 11) rfl lk_M_121 mw_M_blockAt mv_M_blockAt rfl ⟨by decide, rfl⟩ rfl rfl rfl (gd_some hv).1 (sp_M_blockAt G hv)) (fun x5 => ?_)
          refine im_iload_n 29 49 rfl rfl ?_
          refine im_iconst 30 50 rfl rfl ?_
          refine im_iadd 31 51 rfl ?_
          refine im_iload_n 32 52 rfl rfl ?_
          refine im_cWi (S := []) (fun _ _ hv => cpV (fr' := 21) (lo' := 490) (i := 33) (As := [.int x5, .int (q3 + (1 : Int32)), .int p2]) (S := []) (a := p0) (c := 11) rfl lk_M_149 mw_M_isLiveAt mv_M_isLiveAt rfl ⟨by decide, rfl⟩ rfl rfl rfl (gd_some hv).1 (sp_M_isLiveAt G hv)) (fun x6 M2 => ?_)
          refine im_if_eq 34 56 61 rfl (by decide) ?_ ?_
          · exact im_less _ (by simp [lv_le]) (hj61 M2)
          · refine im_iconst 35 59 rfl rfl ?_
            exact im_end rfl (wp_zreturn 36 60 (ty := .boolean) rfl (by first | exact nz_0 | exact nz_1) rfl)
        refine im_ic_ne 17 27 43 rfl (by decide) ?_ ?_
        · exact im_less _ (by simp [lv_le]) (hj43)
        · refine im_aload_n 18 30 rfl rfl ?_
          refine im_iload_n 19 31 rfl rfl ?_
          refine im_iconst 20 32 rfl rfl ?_
          refine im_ci (S := []) (fun _ hv => cpV (fr' := 2) (lo' := 41) (i := 21) (As := [.int q3, .int (2 : Int32)]) (S := []) (a := p0) (c := 11) rfl lk_M_96 mw_M_it mv_M_it rfl ⟨by decide, rfl⟩ rfl rfl rfl (gd_some hv).1 (sp_M_it G hv)) (fun x7 => ?_)
          refine im_iload_n 22 36 rfl rfl ?_
          refine im_ic_ne 23 37 43 rfl (by decide) ?_ ?_
          · exact im_less _ (by simp [lv_le]) (hj43)
          · refine im_goto 24 40 61 rfl (by decide) ?_
            exact im_less _ (by simp [lv_le]) (hj61 N)

set_option maxRecDepth 100000 in
set_option maxHeartbeats 4000000 in
theorem ip_M_hinders (G : gl_T) (t : Nat) (a1 : Int32) (a2 : Int32) (M : mm_T) : im_I mi_M_hinders 22 514 G M sw_i (ff_M_hinders t a1 a2 M) 0 [some (.ref t), some (.int a1), some (.int a2), none] [] M := by
  unfold ff_M_hinders
  refine im_gd (fun hg => ?_)
  refine im_iconst 0 0 rfl rfl ?_
  refine im_istore_n 1 1 [some (.ref t), some (.int a1), some (.int a2), some (.int (0 : Int32))] rfl rfl rfl ?_
  refine im_less [some (.ref t), some (.int a1), some (.int a2), some (.int (0 : Int32))] (by simp [lv_le]) ?_
  exact li_M_hinders_2 G M t a1 a2 fu_L (0 : Int32) M

theorem sp_M_hinders (G : gl_T) {t : Nat} {a1 : Int32} {a2 : Int32} {M : mm_T} {y : Int32 × mm_T} (h : ff_M_hinders t a1 a2 M = some y) : sp_S mi_M_hinders 22 514 G [.ref t, .int a1, .int a2] M (sw_i y).1 (sw_i y).2 := sp_of mo_M_hinders mw_M_hinders (Or.inl (by decide +kernel)) rfl rfl (Or.inl rfl) (ip_M_hinders G t a1 a2 M y h)

set_option maxRecDepth 100000 in
set_option maxHeartbeats 4000000 in
theorem ip_M_interfere (G : gl_T) (t : Nat) (a1 : Int32) (a2 : Int32) (M : mm_T) : im_I mi_M_interfere 23 537 G M sw_i (ff_M_interfere t a1 a2 M) 0 [some (.ref t), some (.int a1), some (.int a2)] [] M := by
  unfold ff_M_interfere
  refine im_gd (fun hg => ?_)
  refine im_aload_n 0 0 rfl rfl ?_
  refine im_iconst 1 1 rfl rfl ?_
  refine im_putI 2 2 rfl fd_M_55 (Or.inl (by decide +kernel)) (by decide +kernel) (fun M1 => ?_)
  refine im_aload_n 3 5 rfl rfl ?_
  refine im_iload_n 4 6 rfl rfl ?_
  refine im_iconst 5 7 rfl rfl ?_
  refine im_cWi (S := []) (fun _ _ hv => cpV (fr' := 2) (lo' := 42) (i := 6) (As := [.int a1, .int (1 : Int32)]) (S := []) (a := t) (c := 11) rfl lk_M_335 mw_M_isVariable mv_M_isVariable rfl ⟨by decide, rfl⟩ rfl rfl rfl (gd_some hv).1 (sp_M_isVariable G hv)) (fun x1 M2 => ?_)
  refine im_if_eq 7 11 23 rfl (by decide) ?_ ?_
  · refine im_iconst 13 23 rfl rfl ?_
    exact im_end rfl (wp_zreturn 14 24 (ty := .boolean) rfl (by first | exact nz_0 | exact nz_1) rfl)
  · refine im_aload_n 8 14 rfl rfl ?_
    refine im_iload_n 9 15 rfl rfl ?_
    refine im_iconst 10 16 rfl rfl ?_
    refine im_cWi (S := []) (fun _ _ hv => cpV (fr' := 2) (lo' := 42) (i := 11) (As := [.int a2, .int (1 : Int32)]) (S := []) (a := t) (c := 11) rfl lk_M_335 mw_M_isVariable mv_M_isVariable rfl ⟨by decide, rfl⟩ rfl rfl rfl (gd_some hv).1 (sp_M_isVariable G hv)) (fun x2 M3 => ?_)
    refine im_if_ne 12 20 25 rfl (by decide) ?_ ?_
    · refine im_iload_n 15 25 rfl rfl ?_
      refine im_iload_n 16 26 rfl rfl ?_
      refine im_ic_eq 17 27 52 rfl (by decide) ?_ ?_
      · refine im_iconst 30 52 rfl rfl ?_
        exact im_end rfl (wp_zreturn 31 53 (ty := .boolean) rfl (by first | exact nz_0 | exact nz_1) rfl)
      · refine im_aload_n 18 30 rfl rfl ?_
        refine im_iload_n 19 31 rfl rfl ?_
        refine im_iload_n 20 32 rfl rfl ?_
        refine im_cWi (S := []) (fun _ _ hv => cpV (fr' := 22) (lo' := 514) (i := 21) (As := [.int a1, .int a2]) (S := []) (a := t) (c := 11) rfl lk_M_353 mw_M_hinders mv_M_hinders rfl ⟨by decide, rfl⟩ rfl rfl rfl (gd_some hv).1 (sp_M_hinders G hv)) (fun x3 M4 => ?_)
        refine im_jp (fun j48 => ∀  (M5 : mm_T), im_I mi_M_interfere 23 537 G M sw_i (j48 M5) 48 [none, none, none] [] M5) ?_ (fun j48 hj48 => ?_)
        · intro M5
          show im_I mi_M_interfere 23 537 G M sw_i (_) 48 [none, none, none] [] M5
          refine im_iconst 28 48 rfl rfl ?_
          refine im_goto 29 49 53 rfl (by decide) ?_
          exact im_end rfl (wp_zreturn 31 53 (ty := .boolean) rfl (by first | exact nz_0 | exact nz_1) rfl)
        refine im_if_ne 22 36 48 rfl (by decide) ?_ ?_
        · exact im_less _ (by simp [lv_le]) (hj48 M4)
        · refine im_aload_n 23 39 rfl rfl ?_
          refine im_iload_n 24 40 rfl rfl ?_
          refine im_iload_n 25 41 rfl rfl ?_
          refine im_cWi (S := []) (fun _ _ hv => cpV (fr' := 22) (lo' := 514) (i := 26) (As := [.int a2, .int a1]) (S := []) (a := t) (c := 11) rfl lk_M_353 mw_M_hinders mv_M_hinders rfl ⟨by decide, rfl⟩ rfl rfl rfl (gd_some hv).1 (sp_M_hinders G hv)) (fun x4 M6 => ?_)
          refine im_if_eq 27 45 52 rfl (by decide) ?_ ?_
          · refine im_iconst 30 52 rfl rfl ?_
            exact im_end rfl (wp_zreturn 31 53 (ty := .boolean) rfl (by first | exact nz_0 | exact nz_1) rfl)
          · exact im_less _ (by simp [lv_le]) (hj48 M6)
    · refine im_iconst 13 23 rfl rfl ?_
      exact im_end rfl (wp_zreturn 14 24 (ty := .boolean) rfl (by first | exact nz_0 | exact nz_1) rfl)

theorem sp_M_interfere (G : gl_T) {t : Nat} {a1 : Int32} {a2 : Int32} {M : mm_T} {y : Int32 × mm_T} (h : ff_M_interfere t a1 a2 M = some y) : sp_S mi_M_interfere 23 537 G [.ref t, .int a1, .int a2] M (sw_i y).1 (sw_i y).2 := sp_of mo_M_interfere mw_M_interfere (Or.inl (by decide +kernel)) rfl rfl (Or.inl rfl) (ip_M_interfere G t a1 a2 M y h)

set_option maxRecDepth 100000 in
set_option maxHeartbeats 4000000 in
theorem li_M_expressionCount_9 (G : gl_T) (M0 : mm_T) (p0 : Nat) (M : mm_T) : ∀ (fu : Nat) (q1 : Int32) (q2 : Int32), im_I mi_M_expressionCount 5 107 G M0 sw_i (lf_M_expressionCount_9 p0 M fu q1 q2) 9 [some (.ref p0), some (.int q1), some (.int q2)] [] M := by
  intro fu
  induction fu with
  | zero => intro _ _; exact im_none
  | succ fu ih =>
    intro q1 q2
    show im_I mi_M_expressionCount 5 107 G M0 sw_i (lb_M_expressionCount_9 p0 M (lf_M_expressionCount_9 p0 M fu) q1 q2) 9 [some (.ref p0), some (.int q1), some (.int q2)] [] M
    unfold lb_M_expressionCount_9
    refine im_iload_n 7 9 rfl rfl ?_
    refine im_aload_n 8 10 rfl rfl ?_
    refine im_iconst 9 11 rfl rfl ?_
    refine im_ci (S := [.int q2]) (fun _ hv => cpV (fr' := 1) (lo' := 20) (i := 10) (As := [.int (1 : Int32)]) (S := [.int q2]) (a := p0) (c := 11) rfl lk_M_61 mw_M_get mv_M_get rfl ⟨by decide, rfl⟩ rfl rfl rfl (gd_some hv).1 (sp_M_get G hv)) (fun x1 => ?_)
    refine im_ic_ge 11 15 35 rfl (by decide) ?_ ?_
    · refine im_iload_n 21 35 rfl rfl ?_
      exact im_end rfl (wp_ireturn 22 36 rfl rfl)
    · refine im_iload_n 12 18 rfl rfl ?_
      refine im_aload_n 13 19 rfl rfl ?_
      refine im_iload_n 14 20 rfl rfl ?_
      refine im_ci (S := [.int q1]) (fun _ hv => cpV (fr' := 4) (lo' := 85) (i := 15) (As := [.int q2]) (S := [.int q1]) (a := p0) (c := 11) rfl lk_M_356 mw_M_isNewest mv_M_isNewest rfl ⟨by decide, rfl⟩ rfl rfl rfl (gd_some hv).1 (sp_M_isNewest G hv)) (fun x2 => ?_)
      refine im_ci (S := [.int q1]) (fun _ hv => cpS (fr' := 1) (lo' := 20) (i := 16) (As := [.int x2]) (S := [.int q1]) rfl lk_M_117 mw_M_one mv_M_one rfl rfl rfl rfl (sp_M_one G hv)) (fun x3 => ?_)
      refine im_iadd 17 27 rfl ?_
      refine im_letI (fun x4 => ?_)
      refine im_istore_n 18 28 [some (.ref p0), some (.int x4), some (.int q2)] rfl rfl rfl ?_
      refine im_iincL 19 29 (fun x5 => [some (.ref p0), some (.int x4), some (.int x5)]) rfl rfl rfl rfl (fun _ => rfl) (fun x5 => ?_)
      refine im_goto 20 32 9 rfl (by decide) ?_
      exact im_less _ (by simp [lv_le]) (ih x4 x5)

set_option maxRecDepth 100000 in
set_option maxHeartbeats 4000000 in
theorem ip_M_expressionCount (G : gl_T) (t : Nat) (M : mm_T) : im_I mi_M_expressionCount 5 107 G M sw_i (ff_M_expressionCount t M) 0 [some (.ref t), none, none] [] M := by
  unfold ff_M_expressionCount
  refine im_gd (fun hg => ?_)
  refine im_aload_n 0 0 rfl rfl ?_
  refine im_iconst 1 1 rfl rfl ?_
  refine im_putI 2 2 rfl fd_M_55 (Or.inl (by decide +kernel)) (by decide +kernel) (fun M1 => ?_)
  refine im_iconst 3 5 rfl rfl ?_
  refine im_istore_n 4 6 [some (.ref t), some (.int (0 : Int32)), none] rfl rfl rfl ?_
  refine im_iconst 5 7 rfl rfl ?_
  refine im_istore_n 6 8 [some (.ref t), some (.int (0 : Int32)), some (.int (0 : Int32))] rfl rfl rfl ?_
  refine im_less [some (.ref t), some (.int (0 : Int32)), some (.int (0 : Int32))] (by simp [lv_le]) ?_
  exact li_M_expressionCount_9 G M t M1 fu_L (0 : Int32) (0 : Int32)

theorem sp_M_expressionCount (G : gl_T) {t : Nat} {M : mm_T} {y : Int32 × mm_T} (h : ff_M_expressionCount t M = some y) : sp_S mi_M_expressionCount 5 107 G [.ref t] M (sw_i y).1 (sw_i y).2 := sp_of mo_M_expressionCount mw_M_expressionCount (Or.inl (by decide +kernel)) rfl rfl (Or.inl rfl) (ip_M_expressionCount G t M y h)

set_option maxRecDepth 100000 in
set_option maxHeartbeats 4000000 in
theorem ip_M_isRedundant (G : gl_T) (t : Nat) (a1 : Int32) (M : mm_T) : im_I mi_M_isRedundant 24 556 G M sw_i (ff_M_isRedundant t a1 M) 0 [some (.ref t), some (.int a1)] [] M := by
  unfold ff_M_isRedundant
  refine im_gd (fun hg => ?_)
  refine im_aload_n 0 0 rfl rfl ?_
  refine im_iload_n 1 1 rfl rfl ?_
  refine im_cWi (S := []) (fun _ _ hv => cpV (fr' := 2) (lo' := 42) (i := 2) (As := [.int a1]) (S := []) (a := t) (c := 11) rfl lk_M_332 mw_M_isItem mv_M_isItem rfl ⟨by decide, rfl⟩ rfl rfl rfl (gd_some hv).1 (sp_M_isItem G hv)) (fun x1 M1 => ?_)
  refine im_if_ne 3 5 10 rfl (by decide) ?_ ?_
  · refine im_aload_n 6 10 rfl rfl ?_
    refine im_iload_n 7 11 rfl rfl ?_
    refine im_cWi (S := []) (fun _ _ hv => cpV (fr' := 23) (lo' := 535) (i := 8) (As := [.int a1]) (S := []) (a := t) (c := 11) rfl lk_M_359 mw_M_isRedundant0 mv_M_isRedundant0 rfl ⟨by decide, rfl⟩ rfl rfl rfl (gd_some hv).1 (sp_M_isRedundant0 G hv)) (fun x2 M2 => ?_)
    exact im_endZ (fun _ => rfl) (fun hn => wp_zreturn 9 15 (ty := .boolean) rfl hn rfl)
  · refine im_iconst 4 8 rfl rfl ?_
    exact im_end rfl (wp_zreturn 5 9 (ty := .boolean) rfl (by first | exact nz_0 | exact nz_1) rfl)

theorem sp_M_isRedundant (G : gl_T) {t : Nat} {a1 : Int32} {M : mm_T} {y : Int32 × mm_T} (h : ff_M_isRedundant t a1 M = some y) : sp_S mi_M_isRedundant 24 556 G [.ref t, .int a1] M (sw_i y).1 (sw_i y).2 := sp_of mo_M_isRedundant mw_M_isRedundant (Or.inl (by decide +kernel)) rfl rfl (Or.inl rfl) (ip_M_isRedundant G t a1 M y h)

set_option maxRecDepth 100000 in
set_option maxHeartbeats 4000000 in
theorem li_M_redundantCount_9 (G : gl_T) (M0 : mm_T) (p0 : Nat) : ∀ (fu : Nat) (q1 : Int32) (q2 : Int32) (N : mm_T), im_I mi_M_redundantCount 24 556 G M0 sw_i (lf_M_redundantCount_9 p0 fu q1 q2 N) 9 [some (.ref p0), some (.int q1), some (.int q2)] [] N := by
  intro fu
  induction fu with
  | zero => intro _ _ _; exact im_none
  | succ fu ih =>
    intro q1 q2 N
    show im_I mi_M_redundantCount 24 556 G M0 sw_i (lb_M_redundantCount_9 p0 (lf_M_redundantCount_9 p0 fu) q1 q2 N) 9 [some (.ref p0), some (.int q1), some (.int q2)] [] N
    unfold lb_M_redundantCount_9
    refine im_iload_n 7 9 rfl rfl ?_
    refine im_aload_n 8 10 rfl rfl ?_
    refine im_iconst 9 11 rfl rfl ?_
    refine im_ci (S := [.int q2]) (fun _ hv => cpV (fr' := 1) (lo' := 20) (i := 10) (As := [.int (1 : Int32)]) (S := [.int q2]) (a := p0) (c := 11) rfl lk_M_61 mw_M_get mv_M_get rfl ⟨by decide, rfl⟩ rfl rfl rfl (gd_some hv).1 (sp_M_get G hv)) (fun x1 => ?_)
    refine im_ic_ge 11 15 35 rfl (by decide) ?_ ?_
    · refine im_iload_n 21 35 rfl rfl ?_
      exact im_end rfl (wp_ireturn 22 36 rfl rfl)
    · refine im_iload_n 12 18 rfl rfl ?_
      refine im_aload_n 13 19 rfl rfl ?_
      refine im_iload_n 14 20 rfl rfl ?_
      refine im_cWi (S := [.int q1]) (fun _ _ hv => cpV (fr' := 23) (lo' := 535) (i := 15) (As := [.int q2]) (S := [.int q1]) (a := p0) (c := 11) rfl lk_M_359 mw_M_isRedundant0 mv_M_isRedundant0 rfl ⟨by decide, rfl⟩ rfl rfl rfl (gd_some hv).1 (sp_M_isRedundant0 G hv)) (fun x2 M2 => ?_)
      refine im_ci (S := [.int q1]) (fun _ hv => cpS (fr' := 1) (lo' := 20) (i := 16) (As := [.int x2]) (S := [.int q1]) rfl lk_M_117 mw_M_one mv_M_one rfl rfl rfl rfl (sp_M_one G hv)) (fun x3 => ?_)
      refine im_iadd 17 27 rfl ?_
      refine im_letI (fun x4 => ?_)
      refine im_istore_n 18 28 [some (.ref p0), some (.int x4), some (.int q2)] rfl rfl rfl ?_
      refine im_iincL 19 29 (fun x5 => [some (.ref p0), some (.int x4), some (.int x5)]) rfl rfl rfl rfl (fun _ => rfl) (fun x5 => ?_)
      refine im_goto 20 32 9 rfl (by decide) ?_
      exact im_less _ (by simp [lv_le]) (ih x4 x5 M2)

set_option maxRecDepth 100000 in
set_option maxHeartbeats 4000000 in
theorem ip_M_redundantCount (G : gl_T) (t : Nat) (M : mm_T) : im_I mi_M_redundantCount 24 556 G M sw_i (ff_M_redundantCount t M) 0 [some (.ref t), none, none] [] M := by
  unfold ff_M_redundantCount
  refine im_gd (fun hg => ?_)
  refine im_aload_n 0 0 rfl rfl ?_
  refine im_iconst 1 1 rfl rfl ?_
  refine im_putI 2 2 rfl fd_M_55 (Or.inl (by decide +kernel)) (by decide +kernel) (fun M1 => ?_)
  refine im_iconst 3 5 rfl rfl ?_
  refine im_istore_n 4 6 [some (.ref t), some (.int (0 : Int32)), none] rfl rfl rfl ?_
  refine im_iconst 5 7 rfl rfl ?_
  refine im_istore_n 6 8 [some (.ref t), some (.int (0 : Int32)), some (.int (0 : Int32))] rfl rfl rfl ?_
  refine im_less [some (.ref t), some (.int (0 : Int32)), some (.int (0 : Int32))] (by simp [lv_le]) ?_
  exact li_M_redundantCount_9 G M t fu_L (0 : Int32) (0 : Int32) M1

theorem sp_M_redundantCount (G : gl_T) {t : Nat} {M : mm_T} {y : Int32 × mm_T} (h : ff_M_redundantCount t M = some y) : sp_S mi_M_redundantCount 24 556 G [.ref t] M (sw_i y).1 (sw_i y).2 := sp_of mo_M_redundantCount mw_M_redundantCount (Or.inl (by decide +kernel)) rfl rfl (Or.inl rfl) (ip_M_redundantCount G t M y h)

set_option maxRecDepth 100000 in
set_option maxHeartbeats 4000000 in
theorem li_M_availableAt_14 (G : gl_T) (M0 : mm_T) (p0 : Nat) (p1 : Int32) : ∀ (fu : Nat) (q2 : Int32) (q3 : Int32) (N : mm_T), im_I mi_M_availableAt 23 535 G M0 sw_i (lf_M_availableAt_14 p0 p1 fu q2 q3 N) 14 [some (.ref p0), some (.int p1), some (.int q2), some (.int q3)] [] N := by
  intro fu
  induction fu with
  | zero => intro _ _ _; exact im_none
  | succ fu ih =>
    intro q2 q3 N
    show im_I mi_M_availableAt 23 535 G M0 sw_i (lb_M_availableAt_14 p0 p1 (lf_M_availableAt_14 p0 p1 fu) q2 q3 N) 14 [some (.ref p0), some (.int p1), some (.int q2), some (.int q3)] [] N
    unfold lb_M_availableAt_14
    refine im_iload_n 10 14 rfl rfl ?_
    refine im_aload_n 11 15 rfl rfl ?_
    refine im_iconst 12 16 rfl rfl ?_
    refine im_ci (S := [.int q3]) (fun _ hv => cpV (fr' := 1) (lo' := 20) (i := 13) (As := [.int (1 : Int32)]) (S := [.int q3]) (a := p0) (c := 11) rfl lk_M_61 mw_M_get mv_M_get rfl ⟨by decide, rfl⟩ rfl rfl rfl (gd_some hv).1 (sp_M_get G hv)) (fun x2 => ?_)
    refine im_ic_ge 14 20 62 rfl (by decide) ?_ ?_
    · refine im_iload_n 36 62 rfl rfl ?_
      exact im_end rfl (wp_ireturn 37 63 rfl rfl)
    · refine im_iload_n 15 23 rfl rfl ?_
      refine im_aload_n 16 24 rfl rfl ?_
      refine im_iload_n 17 25 rfl rfl ?_
      refine im_ci (S := [.int q2]) (fun _ hv => cpV (fr' := 4) (lo' := 85) (i := 18) (As := [.int q3]) (S := [.int q2]) (a := p0) (c := 11) rfl lk_M_356 mw_M_isNewest mv_M_isNewest rfl ⟨by decide, rfl⟩ rfl rfl rfl (gd_some hv).1 (sp_M_isNewest G hv)) (fun x3 => ?_)
      refine im_jp (fun j51 => ∀ (x4 : Int32) (M2 : mm_T), im_I mi_M_availableAt 23 535 G M0 sw_i (j51 x4 M2) 51 [some (.ref p0), some (.int p1), none, some (.int q3)] [.int x4, .int q2] M2) ?_ (fun j51 hj51 => ?_)
      · intro x4 M2
        show im_I mi_M_availableAt 23 535 G M0 sw_i (_) 51 [some (.ref p0), some (.int p1), none, some (.int q3)] [.int x4, .int q2] M2
        refine im_ci (S := [.int q2]) (fun _ hv => cpS (fr' := 1) (lo' := 20) (i := 31) (As := [.int x4]) (S := [.int q2]) rfl lk_M_117 mw_M_one mv_M_one rfl rfl rfl rfl (sp_M_one G hv)) (fun x5 => ?_)
        refine im_iadd 32 54 rfl ?_
        refine im_letI (fun x6 => ?_)
        refine im_istore_n 33 55 [some (.ref p0), some (.int p1), some (.int x6), some (.int q3)] rfl rfl rfl ?_
        refine im_iincL 34 56 (fun x7 => [some (.ref p0), some (.int p1), some (.int x6), some (.int x7)]) rfl rfl rfl rfl (fun _ => rfl) (fun x7 => ?_)
        refine im_goto 35 59 14 rfl (by decide) ?_
        exact im_less _ (by simp [lv_le]) (ih x6 x7 M2)
      refine im_jp (fun j50 => ∀  (M3 : mm_T), im_I mi_M_availableAt 23 535 G M0 sw_i (j50 M3) 50 [some (.ref p0), some (.int p1), none, some (.int q3)] [.int q2] M3) ?_ (fun j50 hj50 => ?_)
      · intro M3
        show im_I mi_M_availableAt 23 535 G M0 sw_i (_) 50 [some (.ref p0), some (.int p1), none, some (.int q3)] [.int q2] M3
        refine im_iconst 30 50 rfl rfl ?_
        exact im_less _ (by simp [lv_le]) (hj51 (0 : Int32) M3)
      refine im_if_eq 19 29 50 rfl (by decide) ?_ ?_
      · exact im_less _ (by simp [lv_le]) (hj50 N)
      · refine im_aload_n 20 32 rfl rfl ?_
        refine im_iload_n 21 33 rfl rfl ?_
        refine im_iload_n 22 34 rfl rfl ?_
        refine im_aload_n 23 35 rfl rfl ?_
        refine im_iload_n 24 36 rfl rfl ?_
        refine im_ci (S := [.int p1, .int q3, .ref p0, .int q2]) (fun _ hv => cpV (fr' := 3) (lo' := 63) (i := 25) (As := [.int p1]) (S := [.int p1, .int q3, .ref p0, .int q2]) (a := p0) (c := 11) rfl lk_M_84 mw_M_firstOf mv_M_firstOf rfl ⟨by decide, rfl⟩ rfl rfl rfl (gd_some hv).1 (sp_M_firstOf G hv)) (fun x8 => ?_)
        refine im_cWi (S := [.int q2]) (fun _ _ hv => cpV (fr' := 22) (lo' := 512) (i := 26) (As := [.int q3, .int p1, .int x8]) (S := [.int q2]) (a := p0) (c := 11) rfl lk_M_166 mw_M_isAvailable mv_M_isAvailable rfl ⟨by decide, rfl⟩ rfl rfl rfl (gd_some hv).1 (sp_M_isAvailable G hv)) (fun x9 M4 => ?_)
        refine im_if_eq 27 43 50 rfl (by decide) ?_ ?_
        · exact im_less _ (by simp [lv_le]) (hj50 M4)
        · refine im_iconst 28 46 rfl rfl ?_
          refine im_goto 29 47 51 rfl (by decide) ?_
          exact im_less _ (by simp [lv_le]) (hj51 (1 : Int32) M4)

set_option maxRecDepth 100000 in
set_option maxHeartbeats 4000000 in
theorem ip_M_availableAt (G : gl_T) (t : Nat) (a1 : Int32) (M : mm_T) : im_I mi_M_availableAt 23 535 G M sw_i (ff_M_availableAt t a1 M) 0 [some (.ref t), some (.int a1), none, none] [] M := by
  unfold ff_M_availableAt
  refine im_gd (fun hg => ?_)
  refine im_aload_n 0 0 rfl rfl ?_
  refine im_iload_n 1 1 rfl rfl ?_
  refine im_cWi (S := []) (fun _ _ hv => cpV (fr' := 2) (lo' := 42) (i := 2) (As := [.int a1]) (S := []) (a := t) (c := 11) rfl lk_M_329 mw_M_isBlock mv_M_isBlock rfl ⟨by decide, rfl⟩ rfl rfl rfl (gd_some hv).1 (sp_M_isBlock G hv)) (fun x1 M1 => ?_)
  refine im_if_ne 3 5 10 rfl (by decide) ?_ ?_
  · refine im_iconst 6 10 rfl rfl ?_
    refine im_istore_n 7 11 [some (.ref t), some (.int a1), some (.int (0 : Int32)), none] rfl rfl rfl ?_
    refine im_iconst 8 12 rfl rfl ?_
    refine im_istore_n 9 13 [some (.ref t), some (.int a1), some (.int (0 : Int32)), some (.int (0 : Int32))] rfl rfl rfl ?_
    refine im_less [some (.ref t), some (.int a1), some (.int (0 : Int32)), some (.int (0 : Int32))] (by simp [lv_le]) ?_
    exact li_M_availableAt_14 G M t a1 fu_L (0 : Int32) (0 : Int32) M1
  · refine im_iconst 4 8 rfl rfl ?_
    exact im_end rfl (wp_ireturn 5 9 rfl rfl)

theorem sp_M_availableAt (G : gl_T) {t : Nat} {a1 : Int32} {M : mm_T} {y : Int32 × mm_T} (h : ff_M_availableAt t a1 M = some y) : sp_S mi_M_availableAt 23 535 G [.ref t, .int a1] M (sw_i y).1 (sw_i y).2 := sp_of mo_M_availableAt mw_M_availableAt (Or.inl (by decide +kernel)) rfl rfl (Or.inl rfl) (ip_M_availableAt G t a1 M y h)

set_option maxRecDepth 100000 in
set_option maxHeartbeats 4000000 in
theorem ip_M_dominates (G : gl_T) (t : Nat) (a1 : Int32) (a2 : Int32) (M : mm_T) : im_I mi_M_dominates 22 510 G M sw_i (ff_M_dominates t a1 a2 M) 0 [some (.ref t), some (.int a1), some (.int a2)] [] M := by
  unfold ff_M_dominates
  refine im_gd (fun hg => ?_)
  refine im_aload_n 0 0 rfl rfl ?_
  refine im_iload_n 1 1 rfl rfl ?_
  refine im_cWi (S := []) (fun _ _ hv => cpV (fr' := 2) (lo' := 42) (i := 2) (As := [.int a1]) (S := []) (a := t) (c := 11) rfl lk_M_329 mw_M_isBlock mv_M_isBlock rfl ⟨by decide, rfl⟩ rfl rfl rfl (gd_some hv).1 (sp_M_isBlock G hv)) (fun x1 M1 => ?_)
  refine im_if_eq 3 5 16 rfl (by decide) ?_ ?_
  · refine im_iconst 8 16 rfl rfl ?_
    exact im_end rfl (wp_zreturn 9 17 (ty := .boolean) rfl (by first | exact nz_0 | exact nz_1) rfl)
  · refine im_aload_n 4 8 rfl rfl ?_
    refine im_iload_n 5 9 rfl rfl ?_
    refine im_cWi (S := []) (fun _ _ hv => cpV (fr' := 2) (lo' := 42) (i := 6) (As := [.int a2]) (S := []) (a := t) (c := 11) rfl lk_M_329 mw_M_isBlock mv_M_isBlock rfl ⟨by decide, rfl⟩ rfl rfl rfl (gd_some hv).1 (sp_M_isBlock G hv)) (fun x2 M2 => ?_)
    refine im_if_ne 7 13 18 rfl (by decide) ?_ ?_
    · refine im_aload_n 10 18 rfl rfl ?_
      refine im_iload_n 11 19 rfl rfl ?_
      refine im_iload_n 12 20 rfl rfl ?_
      refine im_cWi (S := []) (fun _ _ hv => cpV (fr' := 21) (lo' := 488) (i := 13) (As := [.int a1, .int a2]) (S := []) (a := t) (c := 11) rfl lk_M_169 mw_M_governs mv_M_governs rfl ⟨by decide, rfl⟩ rfl rfl rfl (gd_some hv).1 (sp_M_governs G hv)) (fun x3 M3 => ?_)
      exact im_endZ (fun _ => rfl) (fun hn => wp_zreturn 14 24 (ty := .boolean) rfl hn rfl)
    · refine im_iconst 8 16 rfl rfl ?_
      exact im_end rfl (wp_zreturn 9 17 (ty := .boolean) rfl (by first | exact nz_0 | exact nz_1) rfl)

theorem sp_M_dominates (G : gl_T) {t : Nat} {a1 : Int32} {a2 : Int32} {M : mm_T} {y : Int32 × mm_T} (h : ff_M_dominates t a1 a2 M = some y) : sp_S mi_M_dominates 22 510 G [.ref t, .int a1, .int a2] M (sw_i y).1 (sw_i y).2 := sp_of mo_M_dominates mw_M_dominates (Or.inl (by decide +kernel)) rfl rfl (Or.inl rfl) (ip_M_dominates G t a1 a2 M y h)

set_option maxRecDepth 100000 in
set_option maxHeartbeats 4000000 in
theorem li_M_nearestGovernor_6 (G : gl_T) (M0 : mm_T) (p0 : Nat) (p1 : Int32) (p2 : Int32) (p3 : Int32) : ∀ (fu : Nat) (q4 : Int32) (q5 : Int32) (N : mm_T), im_I mi_M_nearestGovernor 23 533 G M0 sw_i (lf_M_nearestGovernor_6 p0 p1 p2 p3 fu q4 q5 N) 6 [some (.ref p0), some (.int p1), some (.int p2), some (.int p3), some (.int q4), some (.int q5)] [] N := by
  intro fu
  induction fu with
  | zero => intro _ _ _; exact im_none
  | succ fu ih =>
    intro q4 q5 N
    show im_I mi_M_nearestGovernor 23 533 G M0 sw_i (lb_M_nearestGovernor_6 p0 p1 p2 p3 (lf_M_nearestGovernor_6 p0 p1 p2 p3 fu) q4 q5 N) 6 [some (.ref p0), some (.int p1), some (.int p2), some (.int p3), some (.int q4), some (.int q5)] [] N
    unfold lb_M_nearestGovernor_6
    refine im_iload 4 6 rfl rfl ?_
    refine im_aload_n 5 8 rfl rfl ?_
    refine im_iconst 6 9 rfl rfl ?_
    refine im_ci (S := [.int q5]) (fun _ hv => cpV (fr' := 1) (lo' := 20) (i := 7) (As := [.int (0 : Int32)]) (S := [.int q5]) (a := p0) (c := 11) rfl lk_M_61 mw_M_get mv_M_get rfl ⟨by decide, rfl⟩ rfl rfl rfl (gd_some hv).1 (sp_M_get G hv)) (fun x1 => ?_)
    refine im_ic_ge 8 13 76 rfl (by decide) ?_ ?_
    · refine im_iload 37 76 rfl rfl ?_
      exact im_end rfl (wp_ireturn 38 78 rfl rfl)
    · refine im_iload 9 16 rfl rfl ?_
      refine im_iload_n 10 18 rfl rfl ?_
      refine im_jp (fun j70 => ∀ (x2 : Int32) (M1 : mm_T), im_I mi_M_nearestGovernor 23 533 G M0 sw_i (j70 x2 M1) 70 [some (.ref p0), some (.int p1), some (.int p2), some (.int p3), some (.int x2), some (.int q5)] [] M1) ?_ (fun j70 hj70 => ?_)
      · intro x2 M1
        show im_I mi_M_nearestGovernor 23 533 G M0 sw_i (_) 70 [some (.ref p0), some (.int p1), some (.int p2), some (.int p3), some (.int x2), some (.int q5)] [] M1
        refine im_iincL 35 70 (fun x3 => [some (.ref p0), some (.int p1), some (.int p2), some (.int p3), some (.int x2), some (.int x3)]) rfl rfl rfl rfl (fun _ => rfl) (fun x3 => ?_)
        refine im_goto 36 73 6 rfl (by decide) ?_
        exact im_less _ (by simp [lv_le]) (ih x2 x3 M1)
      refine im_ic_eq 11 19 70 rfl (by decide) ?_ ?_
      · exact im_less _ (by simp [lv_le]) (hj70 q4 N)
      · refine im_aload_n 12 22 rfl rfl ?_
        refine im_iload 13 23 rfl rfl ?_
        refine im_iload_n 14 25 rfl rfl ?_
        refine im_cWi (S := []) (fun _ _ hv => cpV (fr' := 21) (lo' := 488) (i := 15) (As := [.int q5, .int p1]) (S := []) (a := p0) (c := 11) rfl lk_M_169 mw_M_governs mv_M_governs rfl ⟨by decide, rfl⟩ rfl rfl rfl (gd_some hv).1 (sp_M_governs G hv)) (fun x4 M2 => ?_)
        refine im_if_eq 16 29 70 rfl (by decide) ?_ ?_
        · exact im_less _ (by simp [lv_le]) (hj70 q4 M2)
        · refine im_aload_n 17 32 rfl rfl ?_
          refine im_iload 18 33 rfl rfl ?_
          refine im_iload_n 19 35 rfl rfl ?_
          refine im_cWi (S := []) (fun _ _ hv => cpV (fr' := 21) (lo' := 488) (i := 20) (As := [.int q5, .int p2]) (S := []) (a := p0) (c := 11) rfl lk_M_169 mw_M_governs mv_M_governs rfl ⟨by decide, rfl⟩ rfl rfl rfl (gd_some hv).1 (sp_M_governs G hv)) (fun x5 M3 => ?_)
          refine im_if_ne 21 39 45 rfl (by decide) ?_ ?_
          · refine im_iload 23 45 rfl rfl ?_
            refine im_iconst 24 47 rfl rfl ?_
            refine im_jp (fun j66 => ∀  (M4 : mm_T), im_I mi_M_nearestGovernor 23 533 G M0 sw_i (j66 M4) 66 [some (.ref p0), some (.int p1), some (.int p2), some (.int p3), none, some (.int q5)] [] M4) ?_ (fun j66 hj66 => ?_)
            · intro M4
              show im_I mi_M_nearestGovernor 23 533 G M0 sw_i (_) 66 [some (.ref p0), some (.int p1), some (.int p2), some (.int p3), none, some (.int q5)] [] M4
              refine im_iload 33 66 rfl rfl ?_
              refine im_istore 34 68 [some (.ref p0), some (.int p1), some (.int p2), some (.int p3), some (.int q5), some (.int q5)] rfl rfl rfl ?_
              exact im_less _ (by simp [lv_le]) (hj70 q5 M4)
            refine im_ic_eq 25 48 66 rfl (by decide) ?_ ?_
            · exact im_less _ (by simp [lv_le]) (hj66 M3)
            · refine im_aload_n 26 51 rfl rfl ?_
              refine im_iload 27 52 rfl rfl ?_
              refine im_cWi (S := []) (fun _ _ hv => cpV (fr' := 22) (lo' := 510) (i := 28) (As := [.int q5]) (S := []) (a := p0) (c := 11) rfl lk_M_362 mw_M_governors mv_M_governors rfl ⟨by decide, rfl⟩ rfl rfl rfl (gd_some hv).1 (sp_M_governors G hv)) (fun x6 M5 => ?_)
              refine im_aload_n 29 57 rfl rfl ?_
              refine im_iload 30 58 rfl rfl ?_
              refine im_cWi (S := [.int x6]) (fun _ _ hv => cpV (fr' := 22) (lo' := 510) (i := 31) (As := [.int q4]) (S := [.int x6]) (a := p0) (c := 11) rfl lk_M_362 mw_M_governors mv_M_governors rfl ⟨by decide, rfl⟩ rfl rfl rfl (gd_some hv).1 (sp_M_governors G hv)) (fun x7 M6 => ?_)
              refine im_ic_le 32 63 70 rfl (by decide) ?_ ?_
              · exact im_less _ (by simp [lv_le]) (hj70 q4 M6)
              · exact im_less _ (by simp [lv_le]) (hj66 M6)
          · refine im_goto 22 42 70 rfl (by decide) ?_
            exact im_less _ (by simp [lv_le]) (hj70 q4 M3)

set_option maxRecDepth 100000 in
set_option maxHeartbeats 4000000 in
theorem ip_M_nearestGovernor (G : gl_T) (t : Nat) (a1 : Int32) (a2 : Int32) (a3 : Int32) (M : mm_T) : im_I mi_M_nearestGovernor 23 533 G M sw_i (ff_M_nearestGovernor t a1 a2 a3 M) 0 [some (.ref t), some (.int a1), some (.int a2), some (.int a3), none, none] [] M := by
  unfold ff_M_nearestGovernor
  refine im_gd (fun hg => ?_)
  refine im_iconst 0 0 rfl rfl ?_
  refine im_istore 1 1 [some (.ref t), some (.int a1), some (.int a2), some (.int a3), some (.int (-1 : Int32)), none] rfl rfl rfl ?_
  refine im_iconst 2 3 rfl rfl ?_
  refine im_istore 3 4 [some (.ref t), some (.int a1), some (.int a2), some (.int a3), some (.int (-1 : Int32)), some (.int (0 : Int32))] rfl rfl rfl ?_
  refine im_less [some (.ref t), some (.int a1), some (.int a2), some (.int a3), some (.int (-1 : Int32)), some (.int (0 : Int32))] (by simp [lv_le]) ?_
  exact li_M_nearestGovernor_6 G M t a1 a2 a3 fu_L (-1 : Int32) (0 : Int32) M

theorem sp_M_nearestGovernor (G : gl_T) {t : Nat} {a1 : Int32} {a2 : Int32} {a3 : Int32} {M : mm_T} {y : Int32 × mm_T} (h : ff_M_nearestGovernor t a1 a2 a3 M = some y) : sp_S mi_M_nearestGovernor 23 533 G [.ref t, .int a1, .int a2, .int a3] M (sw_i y).1 (sw_i y).2 := sp_of mo_M_nearestGovernor mw_M_nearestGovernor (Or.inl (by decide +kernel)) rfl rfl (Or.inl rfl) (ip_M_nearestGovernor G t a1 a2 a3 M y h)

set_option maxRecDepth 100000 in
set_option maxHeartbeats 4000000 in
theorem ip_M_immediateDominator (G : gl_T) (t : Nat) (a1 : Int32) (M : mm_T) : im_I mi_M_immediateDominator 24 558 G M sw_i (ff_M_immediateDominator t a1 M) 0 [some (.ref t), some (.int a1)] [] M := by
  unfold ff_M_immediateDominator
  refine im_gd (fun hg => ?_)
  refine im_aload_n 0 0 rfl rfl ?_
  refine im_iload_n 1 1 rfl rfl ?_
  refine im_cWi (S := []) (fun _ _ hv => cpV (fr' := 2) (lo' := 42) (i := 2) (As := [.int a1]) (S := []) (a := t) (c := 11) rfl lk_M_329 mw_M_isBlock mv_M_isBlock rfl ⟨by decide, rfl⟩ rfl rfl rfl (gd_some hv).1 (sp_M_isBlock G hv)) (fun x1 M1 => ?_)
  refine im_if_ne 3 5 10 rfl (by decide) ?_ ?_
  · refine im_aload_n 6 10 rfl rfl ?_
    refine im_iload_n 7 11 rfl rfl ?_
    refine im_iload_n 8 12 rfl rfl ?_
    refine im_iload_n 9 13 rfl rfl ?_
    refine im_cWi (S := []) (fun _ _ hv => cpV (fr' := 23) (lo' := 533) (i := 10) (As := [.int a1, .int a1, .int a1]) (S := []) (a := t) (c := 11) rfl lk_M_365 mw_M_nearestGovernor mv_M_nearestGovernor rfl ⟨by decide, rfl⟩ rfl rfl rfl (gd_some hv).1 (sp_M_nearestGovernor G hv)) (fun x2 M2 => ?_)
    exact im_end rfl (wp_ireturn 11 17 rfl rfl)
  · refine im_iconst 4 8 rfl rfl ?_
    exact im_end rfl (wp_ireturn 5 9 rfl rfl)

theorem sp_M_immediateDominator (G : gl_T) {t : Nat} {a1 : Int32} {M : mm_T} {y : Int32 × mm_T} (h : ff_M_immediateDominator t a1 M = some y) : sp_S mi_M_immediateDominator 24 558 G [.ref t, .int a1] M (sw_i y).1 (sw_i y).2 := sp_of mo_M_immediateDominator mw_M_immediateDominator (Or.inl (by decide +kernel)) rfl rfl (Or.inl rfl) (ip_M_immediateDominator G t a1 M y h)

set_option maxRecDepth 100000 in
set_option maxHeartbeats 4000000 in
theorem ip_M_commonDominator (G : gl_T) (t : Nat) (a1 : Int32) (a2 : Int32) (M : mm_T) : im_I mi_M_commonDominator 24 558 G M sw_i (ff_M_commonDominator t a1 a2 M) 0 [some (.ref t), some (.int a1), some (.int a2)] [] M := by
  unfold ff_M_commonDominator
  refine im_gd (fun hg => ?_)
  refine im_aload_n 0 0 rfl rfl ?_
  refine im_iload_n 1 1 rfl rfl ?_
  refine im_cWi (S := []) (fun _ _ hv => cpV (fr' := 2) (lo' := 42) (i := 2) (As := [.int a1]) (S := []) (a := t) (c := 11) rfl lk_M_329 mw_M_isBlock mv_M_isBlock rfl ⟨by decide, rfl⟩ rfl rfl rfl (gd_some hv).1 (sp_M_isBlock G hv)) (fun x1 M1 => ?_)
  refine im_if_eq 3 5 16 rfl (by decide) ?_ ?_
  · refine im_iconst 8 16 rfl rfl ?_
    exact im_end rfl (wp_ireturn 9 17 rfl rfl)
  · refine im_aload_n 4 8 rfl rfl ?_
    refine im_iload_n 5 9 rfl rfl ?_
    refine im_cWi (S := []) (fun _ _ hv => cpV (fr' := 2) (lo' := 42) (i := 6) (As := [.int a2]) (S := []) (a := t) (c := 11) rfl lk_M_329 mw_M_isBlock mv_M_isBlock rfl ⟨by decide, rfl⟩ rfl rfl rfl (gd_some hv).1 (sp_M_isBlock G hv)) (fun x2 M2 => ?_)
    refine im_if_ne 7 13 18 rfl (by decide) ?_ ?_
    · refine im_aload_n 10 18 rfl rfl ?_
      refine im_iload_n 11 19 rfl rfl ?_
      refine im_iload_n 12 20 rfl rfl ?_
      refine im_iconst 13 21 rfl rfl ?_
      refine im_cWi (S := []) (fun _ _ hv => cpV (fr' := 23) (lo' := 533) (i := 14) (As := [.int a1, .int a2, .int (-1 : Int32)]) (S := []) (a := t) (c := 11) rfl lk_M_365 mw_M_nearestGovernor mv_M_nearestGovernor rfl ⟨by decide, rfl⟩ rfl rfl rfl (gd_some hv).1 (sp_M_nearestGovernor G hv)) (fun x3 M3 => ?_)
      exact im_end rfl (wp_ireturn 15 25 rfl rfl)
    · refine im_iconst 8 16 rfl rfl ?_
      exact im_end rfl (wp_ireturn 9 17 rfl rfl)

theorem sp_M_commonDominator (G : gl_T) {t : Nat} {a1 : Int32} {a2 : Int32} {M : mm_T} {y : Int32 × mm_T} (h : ff_M_commonDominator t a1 a2 M = some y) : sp_S mi_M_commonDominator 24 558 G [.ref t, .int a1, .int a2] M (sw_i y).1 (sw_i y).2 := sp_of mo_M_commonDominator mw_M_commonDominator (Or.inl (by decide +kernel)) rfl rfl (Or.inl rfl) (ip_M_commonDominator G t a1 a2 M y h)

set_option maxRecDepth 100000 in
set_option maxHeartbeats 4000000 in
theorem li_M_backEdges_20 (G : gl_T) (M0 : mm_T) (k0 : Int32 → mm_T → Option (Int32 × mm_T)) (p0 : Nat) (p2 : Int32) (hk0 : ∀ (z1 : Int32) (N : mm_T), im_I mi_M_backEdges 23 532 G M0 sw_i (k0 z1 N) 47 [some (.ref p0), some (.int z1), some (.int p2), none] [] N) : ∀ (fu : Nat) (q1 : Int32) (q3 : Int32) (N : mm_T), im_I mi_M_backEdges 23 532 G M0 sw_i (lf_M_backEdges_20 k0 p0 p2 fu q1 q3 N) 20 [some (.ref p0), some (.int q1), some (.int p2), some (.int q3)] [] N := by
  intro fu
  induction fu with
  | zero => intro _ _ _; exact im_none
  | succ fu ih =>
    intro q1 q3 N
    show im_I mi_M_backEdges 23 532 G M0 sw_i (lb_M_backEdges_20 k0 p0 p2 (lf_M_backEdges_20 k0 p0 p2 fu) q1 q3 N) 20 [some (.ref p0), some (.int q1), some (.int p2), some (.int q3)] [] N
    unfold lb_M_backEdges_20
    refine im_iload_n 14 20 rfl rfl ?_
    refine im_aload_n 15 21 rfl rfl ?_
    refine im_iconst 16 22 rfl rfl ?_
    refine im_ci (S := [.int q3]) (fun _ hv => cpV (fr' := 1) (lo' := 20) (i := 17) (As := [.int (0 : Int32)]) (S := [.int q3]) (a := p0) (c := 11) rfl lk_M_61 mw_M_get mv_M_get rfl ⟨by decide, rfl⟩ rfl rfl rfl (gd_some hv).1 (sp_M_get G hv)) (fun x2 => ?_)
    refine im_ic_ge 18 26 47 rfl (by decide) ?_ ?_
    · exact im_less _ (by simp [lv_le]) (hk0 q1 N)
    · refine im_iload_n 19 29 rfl rfl ?_
      refine im_aload_n 20 30 rfl rfl ?_
      refine im_iload_n 21 31 rfl rfl ?_
      refine im_iload_n 22 32 rfl rfl ?_
      refine im_cWi (S := [.int q1]) (fun _ _ hv => cpV (fr' := 22) (lo' := 510) (i := 23) (As := [.int p2, .int q3]) (S := [.int q1]) (a := p0) (c := 11) rfl lk_M_175 mw_M_isBackEdge mv_M_isBackEdge rfl ⟨by decide, rfl⟩ rfl rfl rfl (gd_some hv).1 (sp_M_isBackEdge G hv)) (fun x3 M2 => ?_)
      refine im_ci (S := [.int q1]) (fun _ hv => cpS (fr' := 1) (lo' := 20) (i := 24) (As := [.int x3]) (S := [.int q1]) rfl lk_M_117 mw_M_one mv_M_one rfl rfl rfl rfl (sp_M_one G hv)) (fun x4 => ?_)
      refine im_iadd 25 39 rfl ?_
      refine im_letI (fun x5 => ?_)
      refine im_istore_n 26 40 [some (.ref p0), some (.int x5), some (.int p2), some (.int q3)] rfl rfl rfl ?_
      refine im_iincL 27 41 (fun x6 => [some (.ref p0), some (.int x5), some (.int p2), some (.int x6)]) rfl rfl rfl rfl (fun _ => rfl) (fun x6 => ?_)
      refine im_goto 28 44 20 rfl (by decide) ?_
      exact im_less _ (by simp [lv_le]) (ih x5 x6 M2)

set_option maxRecDepth 100000 in
set_option maxHeartbeats 4000000 in
theorem li_M_backEdges_9 (G : gl_T) (M0 : mm_T) (p0 : Nat) : ∀ (fu : Nat) (q1 : Int32) (q2 : Int32) (N : mm_T), im_I mi_M_backEdges 23 532 G M0 sw_i (lf_M_backEdges_9 p0 fu q1 q2 N) 9 [some (.ref p0), some (.int q1), some (.int q2), none] [] N := by
  intro fu
  induction fu with
  | zero => intro _ _ _; exact im_none
  | succ fu ih =>
    intro q1 q2 N
    show im_I mi_M_backEdges 23 532 G M0 sw_i (lb_M_backEdges_9 p0 (lf_M_backEdges_9 p0 fu) q1 q2 N) 9 [some (.ref p0), some (.int q1), some (.int q2), none] [] N
    unfold lb_M_backEdges_9
    refine im_iload_n 7 9 rfl rfl ?_
    refine im_aload_n 8 10 rfl rfl ?_
    refine im_iconst 9 11 rfl rfl ?_
    refine im_ci (S := [.int q2]) (fun _ hv => cpV (fr' := 1) (lo' := 20) (i := 10) (As := [.int (0 : Int32)]) (S := [.int q2]) (a := p0) (c := 11) rfl lk_M_61 mw_M_get mv_M_get rfl ⟨by decide, rfl⟩ rfl rfl rfl (gd_some hv).1 (sp_M_get G hv)) (fun x1 => ?_)
    refine im_ic_ge 11 15 53 rfl (by decide) ?_ ?_
    · refine im_iload_n 31 53 rfl rfl ?_
      exact im_end rfl (wp_ireturn 32 54 rfl rfl)
    · refine im_iconst 12 18 rfl rfl ?_
      refine im_istore_n 13 19 [some (.ref p0), some (.int q1), some (.int q2), some (.int (0 : Int32))] rfl rfl rfl ?_
      refine im_less [some (.ref p0), some (.int q1), some (.int q2), some (.int (0 : Int32))] (by simp [lv_le]) ?_
      refine li_M_backEdges_20 G M0 _ p0 q2 ?_ fu_L q1 (0 : Int32) N
      · intro x7 M3
        show im_I mi_M_backEdges 23 532 G M0 sw_i (_) 47 [some (.ref p0), some (.int x7), some (.int q2), none] [] M3
        refine im_iincL 29 47 (fun x8 => [some (.ref p0), some (.int x7), some (.int x8), none]) rfl rfl rfl rfl (fun _ => rfl) (fun x8 => ?_)
        refine im_goto 30 50 9 rfl (by decide) ?_
        exact im_less _ (by simp [lv_le]) (ih x7 x8 M3)

set_option maxRecDepth 100000 in
set_option maxHeartbeats 4000000 in
theorem ip_M_backEdges (G : gl_T) (t : Nat) (M : mm_T) : im_I mi_M_backEdges 23 532 G M sw_i (ff_M_backEdges t M) 0 [some (.ref t), none, none, none] [] M := by
  unfold ff_M_backEdges
  refine im_gd (fun hg => ?_)
  refine im_aload_n 0 0 rfl rfl ?_
  refine im_iconst 1 1 rfl rfl ?_
  refine im_putI 2 2 rfl fd_M_55 (Or.inl (by decide +kernel)) (by decide +kernel) (fun M1 => ?_)
  refine im_iconst 3 5 rfl rfl ?_
  refine im_istore_n 4 6 [some (.ref t), some (.int (0 : Int32)), none, none] rfl rfl rfl ?_
  refine im_iconst 5 7 rfl rfl ?_
  refine im_istore_n 6 8 [some (.ref t), some (.int (0 : Int32)), some (.int (0 : Int32)), none] rfl rfl rfl ?_
  refine im_less [some (.ref t), some (.int (0 : Int32)), some (.int (0 : Int32)), none] (by simp [lv_le]) ?_
  exact li_M_backEdges_9 G M t fu_L (0 : Int32) (0 : Int32) M1

theorem sp_M_backEdges (G : gl_T) {t : Nat} {M : mm_T} {y : Int32 × mm_T} (h : ff_M_backEdges t M = some y) : sp_S mi_M_backEdges 23 532 G [.ref t] M (sw_i y).1 (sw_i y).2 := sp_of mo_M_backEdges mw_M_backEdges (Or.inl (by decide +kernel)) rfl rfl (Or.inl rfl) (ip_M_backEdges G t M y h)

set_option maxRecDepth 100000 in
set_option maxHeartbeats 4000000 in
theorem li_M_loopSize_14 (G : gl_T) (M0 : mm_T) (p0 : Nat) (p1 : Int32) : ∀ (fu : Nat) (q2 : Int32) (q3 : Int32) (N : mm_T), im_I mi_M_loopSize 25 578 G M0 sw_i (lf_M_loopSize_14 p0 p1 fu q2 q3 N) 14 [some (.ref p0), some (.int p1), some (.int q2), some (.int q3)] [] N := by
  intro fu
  induction fu with
  | zero => intro _ _ _; exact im_none
  | succ fu ih =>
    intro q2 q3 N
    show im_I mi_M_loopSize 25 578 G M0 sw_i (lb_M_loopSize_14 p0 p1 (lf_M_loopSize_14 p0 p1 fu) q2 q3 N) 14 [some (.ref p0), some (.int p1), some (.int q2), some (.int q3)] [] N
    unfold lb_M_loopSize_14
    refine im_iload_n 10 14 rfl rfl ?_
    refine im_aload_n 11 15 rfl rfl ?_
    refine im_iconst 12 16 rfl rfl ?_
    refine im_ci (S := [.int q3]) (fun _ hv => cpV (fr' := 1) (lo' := 20) (i := 13) (As := [.int (0 : Int32)]) (S := [.int q3]) (a := p0) (c := 11) rfl lk_M_61 mw_M_get mv_M_get rfl ⟨by decide, rfl⟩ rfl rfl rfl (gd_some hv).1 (sp_M_get G hv)) (fun x2 => ?_)
    refine im_ic_ge 14 20 41 rfl (by decide) ?_ ?_
    · refine im_iload_n 25 41 rfl rfl ?_
      exact im_end rfl (wp_ireturn 26 42 rfl rfl)
    · refine im_iload_n 15 23 rfl rfl ?_
      refine im_aload_n 16 24 rfl rfl ?_
      refine im_iload_n 17 25 rfl rfl ?_
      refine im_iload_n 18 26 rfl rfl ?_
      refine im_cWi (S := [.int q2]) (fun _ _ hv => cpV (fr' := 24) (lo' := 554) (i := 19) (As := [.int q3, .int p1]) (S := [.int q2]) (a := p0) (c := 11) rfl lk_M_368 mw_M_isInLoop mv_M_isInLoop rfl ⟨by decide, rfl⟩ rfl rfl rfl (gd_some hv).1 (sp_M_isInLoop G hv)) (fun x3 M2 => ?_)
      refine im_ci (S := [.int q2]) (fun _ hv => cpS (fr' := 1) (lo' := 20) (i := 20) (As := [.int x3]) (S := [.int q2]) rfl lk_M_117 mw_M_one mv_M_one rfl rfl rfl rfl (sp_M_one G hv)) (fun x4 => ?_)
      refine im_iadd 21 33 rfl ?_
      refine im_letI (fun x5 => ?_)
      refine im_istore_n 22 34 [some (.ref p0), some (.int p1), some (.int x5), some (.int q3)] rfl rfl rfl ?_
      refine im_iincL 23 35 (fun x6 => [some (.ref p0), some (.int p1), some (.int x5), some (.int x6)]) rfl rfl rfl rfl (fun _ => rfl) (fun x6 => ?_)
      refine im_goto 24 38 14 rfl (by decide) ?_
      exact im_less _ (by simp [lv_le]) (ih x5 x6 M2)

set_option maxRecDepth 100000 in
set_option maxHeartbeats 4000000 in
theorem ip_M_loopSize (G : gl_T) (t : Nat) (a1 : Int32) (M : mm_T) : im_I mi_M_loopSize 25 578 G M sw_i (ff_M_loopSize t a1 M) 0 [some (.ref t), some (.int a1), none, none] [] M := by
  unfold ff_M_loopSize
  refine im_gd (fun hg => ?_)
  refine im_aload_n 0 0 rfl rfl ?_
  refine im_iload_n 1 1 rfl rfl ?_
  refine im_cWi (S := []) (fun _ _ hv => cpV (fr' := 2) (lo' := 42) (i := 2) (As := [.int a1]) (S := []) (a := t) (c := 11) rfl lk_M_329 mw_M_isBlock mv_M_isBlock rfl ⟨by decide, rfl⟩ rfl rfl rfl (gd_some hv).1 (sp_M_isBlock G hv)) (fun x1 M1 => ?_)
  refine im_if_ne 3 5 10 rfl (by decide) ?_ ?_
  · refine im_iconst 6 10 rfl rfl ?_
    refine im_istore_n 7 11 [some (.ref t), some (.int a1), some (.int (0 : Int32)), none] rfl rfl rfl ?_
    refine im_iconst 8 12 rfl rfl ?_
    refine im_istore_n 9 13 [some (.ref t), some (.int a1), some (.int (0 : Int32)), some (.int (0 : Int32))] rfl rfl rfl ?_
    refine im_less [some (.ref t), some (.int a1), some (.int (0 : Int32)), some (.int (0 : Int32))] (by simp [lv_le]) ?_
    exact li_M_loopSize_14 G M t a1 fu_L (0 : Int32) (0 : Int32) M1
  · refine im_iconst 4 8 rfl rfl ?_
    exact im_end rfl (wp_ireturn 5 9 rfl rfl)

theorem sp_M_loopSize (G : gl_T) {t : Nat} {a1 : Int32} {M : mm_T} {y : Int32 × mm_T} (h : ff_M_loopSize t a1 M = some y) : sp_S mi_M_loopSize 25 578 G [.ref t, .int a1] M (sw_i y).1 (sw_i y).2 := sp_of mo_M_loopSize mw_M_loopSize (Or.inl (by decide +kernel)) rfl rfl (Or.inl rfl) (ip_M_loopSize G t a1 M y h)

set_option maxRecDepth 100000 in
set_option maxHeartbeats 4000000 in
theorem li_M_loopDepth_14 (G : gl_T) (M0 : mm_T) (p0 : Nat) (p1 : Int32) : ∀ (fu : Nat) (q2 : Int32) (q3 : Int32) (N : mm_T), im_I mi_M_loopDepth 25 578 G M0 sw_i (lf_M_loopDepth_14 p0 p1 fu q2 q3 N) 14 [some (.ref p0), some (.int p1), some (.int q2), some (.int q3)] [] N := by
  intro fu
  induction fu with
  | zero => intro _ _ _; exact im_none
  | succ fu ih =>
    intro q2 q3 N
    show im_I mi_M_loopDepth 25 578 G M0 sw_i (lb_M_loopDepth_14 p0 p1 (lf_M_loopDepth_14 p0 p1 fu) q2 q3 N) 14 [some (.ref p0), some (.int p1), some (.int q2), some (.int q3)] [] N
    unfold lb_M_loopDepth_14
    refine im_iload_n 10 14 rfl rfl ?_
    refine im_aload_n 11 15 rfl rfl ?_
    refine im_iconst 12 16 rfl rfl ?_
    refine im_ci (S := [.int q3]) (fun _ hv => cpV (fr' := 1) (lo' := 20) (i := 13) (As := [.int (0 : Int32)]) (S := [.int q3]) (a := p0) (c := 11) rfl lk_M_61 mw_M_get mv_M_get rfl ⟨by decide, rfl⟩ rfl rfl rfl (gd_some hv).1 (sp_M_get G hv)) (fun x2 => ?_)
    refine im_ic_ge 14 20 41 rfl (by decide) ?_ ?_
    · refine im_iload_n 25 41 rfl rfl ?_
      exact im_end rfl (wp_ireturn 26 42 rfl rfl)
    · refine im_iload_n 15 23 rfl rfl ?_
      refine im_aload_n 16 24 rfl rfl ?_
      refine im_iload_n 17 25 rfl rfl ?_
      refine im_iload_n 18 26 rfl rfl ?_
      refine im_cWi (S := [.int q2]) (fun _ _ hv => cpV (fr' := 24) (lo' := 554) (i := 19) (As := [.int p1, .int q3]) (S := [.int q2]) (a := p0) (c := 11) rfl lk_M_368 mw_M_isInLoop mv_M_isInLoop rfl ⟨by decide, rfl⟩ rfl rfl rfl (gd_some hv).1 (sp_M_isInLoop G hv)) (fun x3 M2 => ?_)
      refine im_ci (S := [.int q2]) (fun _ hv => cpS (fr' := 1) (lo' := 20) (i := 20) (As := [.int x3]) (S := [.int q2]) rfl lk_M_117 mw_M_one mv_M_one rfl rfl rfl rfl (sp_M_one G hv)) (fun x4 => ?_)
      refine im_iadd 21 33 rfl ?_
      refine im_letI (fun x5 => ?_)
      refine im_istore_n 22 34 [some (.ref p0), some (.int p1), some (.int x5), some (.int q3)] rfl rfl rfl ?_
      refine im_iincL 23 35 (fun x6 => [some (.ref p0), some (.int p1), some (.int x5), some (.int x6)]) rfl rfl rfl rfl (fun _ => rfl) (fun x6 => ?_)
      refine im_goto 24 38 14 rfl (by decide) ?_
      exact im_less _ (by simp [lv_le]) (ih x5 x6 M2)

set_option maxRecDepth 100000 in
set_option maxHeartbeats 4000000 in
theorem ip_M_loopDepth (G : gl_T) (t : Nat) (a1 : Int32) (M : mm_T) : im_I mi_M_loopDepth 25 578 G M sw_i (ff_M_loopDepth t a1 M) 0 [some (.ref t), some (.int a1), none, none] [] M := by
  unfold ff_M_loopDepth
  refine im_gd (fun hg => ?_)
  refine im_aload_n 0 0 rfl rfl ?_
  refine im_iload_n 1 1 rfl rfl ?_
  refine im_cWi (S := []) (fun _ _ hv => cpV (fr' := 2) (lo' := 42) (i := 2) (As := [.int a1]) (S := []) (a := t) (c := 11) rfl lk_M_329 mw_M_isBlock mv_M_isBlock rfl ⟨by decide, rfl⟩ rfl rfl rfl (gd_some hv).1 (sp_M_isBlock G hv)) (fun x1 M1 => ?_)
  refine im_if_ne 3 5 10 rfl (by decide) ?_ ?_
  · refine im_iconst 6 10 rfl rfl ?_
    refine im_istore_n 7 11 [some (.ref t), some (.int a1), some (.int (0 : Int32)), none] rfl rfl rfl ?_
    refine im_iconst 8 12 rfl rfl ?_
    refine im_istore_n 9 13 [some (.ref t), some (.int a1), some (.int (0 : Int32)), some (.int (0 : Int32))] rfl rfl rfl ?_
    refine im_less [some (.ref t), some (.int a1), some (.int (0 : Int32)), some (.int (0 : Int32))] (by simp [lv_le]) ?_
    exact li_M_loopDepth_14 G M t a1 fu_L (0 : Int32) (0 : Int32) M1
  · refine im_iconst 4 8 rfl rfl ?_
    exact im_end rfl (wp_ireturn 5 9 rfl rfl)

theorem sp_M_loopDepth (G : gl_T) {t : Nat} {a1 : Int32} {M : mm_T} {y : Int32 × mm_T} (h : ff_M_loopDepth t a1 M = some y) : sp_S mi_M_loopDepth 25 578 G [.ref t, .int a1] M (sw_i y).1 (sw_i y).2 := sp_of mo_M_loopDepth mw_M_loopDepth (Or.inl (by decide +kernel)) rfl rfl (Or.inl rfl) (ip_M_loopDepth G t a1 M y h)

set_option maxRecDepth 100000 in
set_option maxHeartbeats 4000000 in
theorem ip_M_constantAt (G : gl_T) (t : Nat) (a1 : Int32) (a2 : Int32) (M : mm_T) : im_I mi_M_constantAt 23 533 G M sw_i (ff_M_constantAt t a1 a2 M) 0 [some (.ref t), some (.int a1), some (.int a2)] [] M := by
  unfold ff_M_constantAt
  refine im_gd (fun hg => ?_)
  refine im_aload_n 0 0 rfl rfl ?_
  refine im_iload_n 1 1 rfl rfl ?_
  refine im_cWi (S := []) (fun _ _ hv => cpV (fr' := 2) (lo' := 42) (i := 2) (As := [.int a1]) (S := []) (a := t) (c := 11) rfl lk_M_329 mw_M_isBlock mv_M_isBlock rfl ⟨by decide, rfl⟩ rfl rfl rfl (gd_some hv).1 (sp_M_isBlock G hv)) (fun x1 M1 => ?_)
  refine im_if_eq 3 5 17 rfl (by decide) ?_ ?_
  · refine im_iconst 9 17 rfl rfl ?_
    exact im_end rfl (wp_ireturn 10 18 rfl rfl)
  · refine im_aload_n 4 8 rfl rfl ?_
    refine im_iload_n 5 9 rfl rfl ?_
    refine im_iconst 6 10 rfl rfl ?_
    refine im_cWi (S := []) (fun _ _ hv => cpV (fr' := 2) (lo' := 42) (i := 7) (As := [.int a2, .int (2 : Int32)]) (S := []) (a := t) (c := 11) rfl lk_M_335 mw_M_isVariable mv_M_isVariable rfl ⟨by decide, rfl⟩ rfl rfl rfl (gd_some hv).1 (sp_M_isVariable G hv)) (fun x2 M2 => ?_)
    refine im_if_ne 8 14 19 rfl (by decide) ?_ ?_
    · refine im_aload_n 11 19 rfl rfl ?_
      refine im_iload_n 12 20 rfl rfl ?_
      refine im_aload_n 13 21 rfl rfl ?_
      refine im_iload_n 14 22 rfl rfl ?_
      refine im_ci (S := [.int a1, .ref t]) (fun _ hv => cpV (fr' := 3) (lo' := 63) (i := 15) (As := [.int a1]) (S := [.int a1, .ref t]) (a := t) (c := 11) rfl lk_M_84 mw_M_firstOf mv_M_firstOf rfl ⟨by decide, rfl⟩ rfl rfl rfl (gd_some hv).1 (sp_M_firstOf G hv)) (fun x3 => ?_)
      refine im_iload_n 16 26 rfl rfl ?_
      refine im_cWi (S := []) (fun _ _ hv => cpV (fr' := 22) (lo' := 510) (i := 17) (As := [.int a1, .int x3, .int a2]) (S := []) (a := t) (c := 11) rfl lk_M_371 mw_M_constantAtPlace mv_M_constantAtPlace rfl ⟨by decide, rfl⟩ rfl rfl rfl (gd_some hv).1 (sp_M_constantAtPlace G hv)) (fun x4 M3 => ?_)
      exact im_end rfl (wp_ireturn 18 30 rfl rfl)
    · refine im_iconst 9 17 rfl rfl ?_
      exact im_end rfl (wp_ireturn 10 18 rfl rfl)

theorem sp_M_constantAt (G : gl_T) {t : Nat} {a1 : Int32} {a2 : Int32} {M : mm_T} {y : Int32 × mm_T} (h : ff_M_constantAt t a1 a2 M = some y) : sp_S mi_M_constantAt 23 533 G [.ref t, .int a1, .int a2] M (sw_i y).1 (sw_i y).2 := sp_of mo_M_constantAt mw_M_constantAt (Or.inl (by decide +kernel)) rfl rfl (Or.inl rfl) (ip_M_constantAt G t a1 a2 M y h)

set_option maxRecDepth 100000 in
set_option maxHeartbeats 4000000 in
theorem ip_M_constantGiven (G : gl_T) (t : Nat) (a1 : Int32) (M : mm_T) : im_I mi_M_constantGiven 23 533 G M sw_i (ff_M_constantGiven t a1 M) 0 [some (.ref t), some (.int a1)] [] M := by
  unfold ff_M_constantGiven
  refine im_gd (fun hg => ?_)
  refine im_aload_n 0 0 rfl rfl ?_
  refine im_iload_n 1 1 rfl rfl ?_
  refine im_ci (S := []) (fun _ hv => cpV (fr' := 3) (lo' := 63) (i := 2) (As := [.int a1]) (S := []) (a := t) (c := 11) rfl lk_M_99 mw_M_isDefinition mv_M_isDefinition rfl ⟨by decide, rfl⟩ rfl rfl rfl (gd_some hv).1 (sp_M_isDefinition G hv)) (fun x1 => ?_)
  refine im_if_eq 3 5 29 rfl (by decide) ?_ ?_
  · refine im_iconst 17 29 rfl rfl ?_
    exact im_end rfl (wp_ireturn 18 30 rfl rfl)
  · refine im_aload_n 4 8 rfl rfl ?_
    refine im_aload_n 5 9 rfl rfl ?_
    refine im_iload_n 6 10 rfl rfl ?_
    refine im_ci (S := [.ref t]) (fun _ hv => cpV (fr' := 5) (lo' := 107) (i := 7) (As := [.int a1]) (S := [.ref t]) (a := t) (c := 11) rfl lk_M_121 mw_M_blockAt mv_M_blockAt rfl ⟨by decide, rfl⟩ rfl rfl rfl (gd_some hv).1 (sp_M_blockAt G hv)) (fun x2 => ?_)
    refine im_iload_n 8 14 rfl rfl ?_
    refine im_iconst 9 15 rfl rfl ?_
    refine im_iadd 10 16 rfl ?_
    refine im_aload_n 11 17 rfl rfl ?_
    refine im_iload_n 12 18 rfl rfl ?_
    refine im_iconst 13 19 rfl rfl ?_
    refine im_ci (S := [.int (a1 + (1 : Int32)), .int x2, .ref t]) (fun _ hv => cpV (fr' := 2) (lo' := 41) (i := 14) (As := [.int a1, .int (1 : Int32)]) (S := [.int (a1 + (1 : Int32)), .int x2, .ref t]) (a := t) (c := 11) rfl lk_M_96 mw_M_it mv_M_it rfl ⟨by decide, rfl⟩ rfl rfl rfl (gd_some hv).1 (sp_M_it G hv)) (fun x3 => ?_)
    refine im_cWi (S := []) (fun _ _ hv => cpV (fr' := 22) (lo' := 510) (i := 15) (As := [.int x2, .int (a1 + (1 : Int32)), .int x3]) (S := []) (a := t) (c := 11) rfl lk_M_371 mw_M_constantAtPlace mv_M_constantAtPlace rfl ⟨by decide, rfl⟩ rfl rfl rfl (gd_some hv).1 (sp_M_constantAtPlace G hv)) (fun x4 M1 => ?_)
    refine im_goto 16 26 30 rfl (by decide) ?_
    exact im_end rfl (wp_ireturn 18 30 rfl rfl)

theorem sp_M_constantGiven (G : gl_T) {t : Nat} {a1 : Int32} {M : mm_T} {y : Int32 × mm_T} (h : ff_M_constantGiven t a1 M = some y) : sp_S mi_M_constantGiven 23 533 G [.ref t, .int a1] M (sw_i y).1 (sw_i y).2 := sp_of mo_M_constantGiven mw_M_constantGiven (Or.inl (by decide +kernel)) rfl rfl (Or.inl rfl) (ip_M_constantGiven G t a1 M y h)

set_option maxRecDepth 100000 in
set_option maxHeartbeats 4000000 in
theorem ip_M_constantOf (G : gl_T) (t : Nat) (a1 : Int32) (M : mm_T) : im_I mi_M_constantOf 24 554 G M sw_i (ff_M_constantOf t a1 M) 0 [some (.ref t), some (.int a1)] [] M := by
  unfold ff_M_constantOf
  refine im_gd (fun hg => ?_)
  refine im_aload_n 0 0 rfl rfl ?_
  refine im_iload_n 1 1 rfl rfl ?_
  refine im_cWi (S := []) (fun _ _ hv => cpV (fr' := 2) (lo' := 42) (i := 2) (As := [.int a1]) (S := []) (a := t) (c := 11) rfl lk_M_332 mw_M_isItem mv_M_isItem rfl ⟨by decide, rfl⟩ rfl rfl rfl (gd_some hv).1 (sp_M_isItem G hv)) (fun x1 M1 => ?_)
  refine im_if_ne 3 5 10 rfl (by decide) ?_ ?_
  · refine im_aload_n 6 10 rfl rfl ?_
    refine im_iload_n 7 11 rfl rfl ?_
    refine im_cWi (S := []) (fun _ _ hv => cpV (fr' := 23) (lo' := 533) (i := 8) (As := [.int a1]) (S := []) (a := t) (c := 11) rfl lk_M_374 mw_M_constantGiven mv_M_constantGiven rfl ⟨by decide, rfl⟩ rfl rfl rfl (gd_some hv).1 (sp_M_constantGiven G hv)) (fun x2 M2 => ?_)
    exact im_end rfl (wp_ireturn 9 15 rfl rfl)
  · refine im_iconst 4 8 rfl rfl ?_
    exact im_end rfl (wp_ireturn 5 9 rfl rfl)

theorem sp_M_constantOf (G : gl_T) {t : Nat} {a1 : Int32} {M : mm_T} {y : Int32 × mm_T} (h : ff_M_constantOf t a1 M = some y) : sp_S mi_M_constantOf 24 554 G [.ref t, .int a1] M (sw_i y).1 (sw_i y).2 := sp_of mo_M_constantOf mw_M_constantOf (Or.inl (by decide +kernel)) rfl rfl (Or.inl rfl) (ip_M_constantOf G t a1 M y h)

set_option maxRecDepth 100000 in
set_option maxHeartbeats 4000000 in
theorem li_M_decidedBranches_9 (G : gl_T) (M0 : mm_T) (p0 : Nat) : ∀ (fu : Nat) (q1 : Int32) (q2 : Int32) (N : mm_T), im_I mi_M_decidedBranches 23 533 G M0 sw_i (lf_M_decidedBranches_9 p0 fu q1 q2 N) 9 [some (.ref p0), some (.int q1), some (.int q2)] [] N := by
  intro fu
  induction fu with
  | zero => intro _ _ _; exact im_none
  | succ fu ih =>
    intro q1 q2 N
    show im_I mi_M_decidedBranches 23 533 G M0 sw_i (lb_M_decidedBranches_9 p0 (lf_M_decidedBranches_9 p0 fu) q1 q2 N) 9 [some (.ref p0), some (.int q1), some (.int q2)] [] N
    unfold lb_M_decidedBranches_9
    refine im_iload_n 7 9 rfl rfl ?_
    refine im_aload_n 8 10 rfl rfl ?_
    refine im_iconst 9 11 rfl rfl ?_
    refine im_ci (S := [.int q2]) (fun _ hv => cpV (fr' := 1) (lo' := 20) (i := 10) (As := [.int (0 : Int32)]) (S := [.int q2]) (a := p0) (c := 11) rfl lk_M_61 mw_M_get mv_M_get rfl ⟨by decide, rfl⟩ rfl rfl rfl (gd_some hv).1 (sp_M_get G hv)) (fun x1 => ?_)
    refine im_ic_ge 11 15 65 rfl (by decide) ?_ ?_
    · refine im_iload_n 39 65 rfl rfl ?_
      exact im_end rfl (wp_ireturn 40 66 rfl rfl)
    · refine im_iload_n 12 18 rfl rfl ?_
      refine im_aload_n 13 19 rfl rfl ?_
      refine im_iload_n 14 20 rfl rfl ?_
      refine im_iconst 15 21 rfl rfl ?_
      refine im_ci (S := [.int q1]) (fun _ hv => cpV (fr' := 2) (lo' := 41) (i := 16) (As := [.int q2, .int (1 : Int32)]) (S := [.int q1]) (a := p0) (c := 11) rfl lk_M_80 mw_M_bl mv_M_bl rfl ⟨by decide, rfl⟩ rfl rfl rfl (gd_some hv).1 (sp_M_bl G hv)) (fun x2 => ?_)
      refine im_iconst 17 25 rfl rfl ?_
      refine im_jp (fun j54 => ∀ (x3 : Int32) (M2 : mm_T), im_I mi_M_decidedBranches 23 533 G M0 sw_i (j54 x3 M2) 54 [some (.ref p0), none, some (.int q2)] [.int x3, .int q1] M2) ?_ (fun j54 hj54 => ?_)
      · intro x3 M2
        show im_I mi_M_decidedBranches 23 533 G M0 sw_i (_) 54 [some (.ref p0), none, some (.int q2)] [.int x3, .int q1] M2
        refine im_ci (S := [.int q1]) (fun _ hv => cpS (fr' := 1) (lo' := 20) (i := 34) (As := [.int x3]) (S := [.int q1]) rfl lk_M_117 mw_M_one mv_M_one rfl rfl rfl rfl (sp_M_one G hv)) (fun x4 => ?_)
        refine im_iadd 35 57 rfl ?_
        refine im_letI (fun x5 => ?_)
        refine im_istore_n 36 58 [some (.ref p0), some (.int x5), some (.int q2)] rfl rfl rfl ?_
        refine im_iincL 37 59 (fun x6 => [some (.ref p0), some (.int x5), some (.int x6)]) rfl rfl rfl rfl (fun _ => rfl) (fun x6 => ?_)
        refine im_goto 38 62 9 rfl (by decide) ?_
        exact im_less _ (by simp [lv_le]) (ih x5 x6 M2)
      refine im_jp (fun j53 => ∀  (M3 : mm_T), im_I mi_M_decidedBranches 23 533 G M0 sw_i (j53 M3) 53 [some (.ref p0), none, some (.int q2)] [.int q1] M3) ?_ (fun j53 hj53 => ?_)
      · intro M3
        show im_I mi_M_decidedBranches 23 533 G M0 sw_i (_) 53 [some (.ref p0), none, some (.int q2)] [.int q1] M3
        refine im_iconst 33 53 rfl rfl ?_
        exact im_less _ (by simp [lv_le]) (hj54 (0 : Int32) M3)
      refine im_ic_ne 18 26 53 rfl (by decide) ?_ ?_
      · exact im_less _ (by simp [lv_le]) (hj53 N)
      · refine im_aload_n 19 29 rfl rfl ?_
        refine im_iload_n 20 30 rfl rfl ?_
        refine im_aload_n 21 31 rfl rfl ?_
        refine im_iload_n 22 32 rfl rfl ?_
        refine im_ci (S := [.int q2, .ref p0, .int q1]) (fun _ hv => cpV (fr' := 4) (lo' := 86) (i := 23) (As := [.int q2]) (S := [.int q2, .ref p0, .int q1]) (a := p0) (c := 11) rfl lk_M_87 mw_M_endOf mv_M_endOf rfl ⟨by decide, rfl⟩ rfl rfl rfl (gd_some hv).1 (sp_M_endOf G hv)) (fun x7 => ?_)
        refine im_aload_n 24 36 rfl rfl ?_
        refine im_iload_n 25 37 rfl rfl ?_
        refine im_iconst 26 38 rfl rfl ?_
        refine im_ci (S := [.int x7, .int q2, .ref p0, .int q1]) (fun _ hv => cpV (fr' := 2) (lo' := 41) (i := 27) (As := [.int q2, .int (2 : Int32)]) (S := [.int x7, .int q2, .ref p0, .int q1]) (a := p0) (c := 11) rfl lk_M_80 mw_M_bl mv_M_bl rfl ⟨by decide, rfl⟩ rfl rfl rfl (gd_some hv).1 (sp_M_bl G hv)) (fun x8 => ?_)
        refine im_cWi (S := [.int q1]) (fun _ _ hv => cpV (fr' := 22) (lo' := 510) (i := 28) (As := [.int q2, .int x7, .int x8]) (S := [.int q1]) (a := p0) (c := 11) rfl lk_M_371 mw_M_constantAtPlace mv_M_constantAtPlace rfl ⟨by decide, rfl⟩ rfl rfl rfl (gd_some hv).1 (sp_M_constantAtPlace G hv)) (fun x9 M4 => ?_)
        refine im_iconst 29 45 rfl rfl ?_
        refine im_ic_eq 30 46 53 rfl (by decide) ?_ ?_
        · exact im_less _ (by simp [lv_le]) (hj53 M4)
        · refine im_iconst 31 49 rfl rfl ?_
          refine im_goto 32 50 54 rfl (by decide) ?_
          exact im_less _ (by simp [lv_le]) (hj54 (1 : Int32) M4)

set_option maxRecDepth 100000 in
set_option maxHeartbeats 4000000 in
theorem ip_M_decidedBranches (G : gl_T) (t : Nat) (M : mm_T) : im_I mi_M_decidedBranches 23 533 G M sw_i (ff_M_decidedBranches t M) 0 [some (.ref t), none, none] [] M := by
  unfold ff_M_decidedBranches
  refine im_gd (fun hg => ?_)
  refine im_aload_n 0 0 rfl rfl ?_
  refine im_iconst 1 1 rfl rfl ?_
  refine im_putI 2 2 rfl fd_M_55 (Or.inl (by decide +kernel)) (by decide +kernel) (fun M1 => ?_)
  refine im_iconst 3 5 rfl rfl ?_
  refine im_istore_n 4 6 [some (.ref t), some (.int (0 : Int32)), none] rfl rfl rfl ?_
  refine im_iconst 5 7 rfl rfl ?_
  refine im_istore_n 6 8 [some (.ref t), some (.int (0 : Int32)), some (.int (0 : Int32))] rfl rfl rfl ?_
  refine im_less [some (.ref t), some (.int (0 : Int32)), some (.int (0 : Int32))] (by simp [lv_le]) ?_
  exact li_M_decidedBranches_9 G M t fu_L (0 : Int32) (0 : Int32) M1

theorem sp_M_decidedBranches (G : gl_T) {t : Nat} {M : mm_T} {y : Int32 × mm_T} (h : ff_M_decidedBranches t M = some y) : sp_S mi_M_decidedBranches 23 533 G [.ref t] M (sw_i y).1 (sw_i y).2 := sp_of mo_M_decidedBranches mw_M_decidedBranches (Or.inl (by decide +kernel)) rfl rfl (Or.inl rfl) (ip_M_decidedBranches G t M y h)

set_option maxRecDepth 100000 in
set_option maxHeartbeats 4000000 in
theorem ip_M_isCount (G : gl_T) (t : Nat) (a1 : Int32) (a2 : Int32) (a3 : Int32) (M : mm_T) : im_I mi_M_isCount 2 42 G M sw_i (ff_M_isCount t a1 a2 a3 M) 0 [some (.ref t), some (.int a1), some (.int a2), some (.int a3)] [] M := by
  unfold ff_M_isCount
  refine im_gd (fun hg => ?_)
  refine im_iload_n 0 0 rfl rfl ?_
  refine im_iload_n 1 1 rfl rfl ?_
  refine im_sipush 2 2 rfl rfl ?_
  refine im_ci (S := []) (fun _ hv => cpS (fr' := 1) (lo' := 20) (i := 3) (As := [.int a1, .int a2, .int (1000 : Int32)]) (S := []) rfl lk_M_124 mw_M_in mv_M_in rfl rfl rfl rfl (sp_M_in G hv)) (fun x1 => ?_)
  refine im_if_eq 4 8 13 rfl (by decide) ?_ ?_
  · refine im_aload_n 7 13 rfl rfl ?_
    refine im_iload_n 8 14 rfl rfl ?_
    refine im_putI 9 15 rfl fd_M_55 (Or.inl (by decide +kernel)) (by decide +kernel) (fun M1 => ?_)
    refine im_iconst 10 18 rfl rfl ?_
    exact im_end rfl (wp_zreturn 11 19 (ty := .boolean) rfl (by first | exact nz_0 | exact nz_1) rfl)
  · refine im_iconst 5 11 rfl rfl ?_
    exact im_end rfl (wp_zreturn 6 12 (ty := .boolean) rfl (by first | exact nz_0 | exact nz_1) rfl)

theorem sp_M_isCount (G : gl_T) {t : Nat} {a1 : Int32} {a2 : Int32} {a3 : Int32} {M : mm_T} {y : Int32 × mm_T} (h : ff_M_isCount t a1 a2 a3 M = some y) : sp_S mi_M_isCount 2 42 G [.ref t, .int a1, .int a2, .int a3] M (sw_i y).1 (sw_i y).2 := sp_of mo_M_isCount mw_M_isCount (Or.inl (by decide +kernel)) rfl rfl (Or.inl rfl) (ip_M_isCount G t a1 a2 a3 M y h)

set_option maxRecDepth 100000 in
set_option maxHeartbeats 4000000 in
theorem ip_M_runSteps (G : gl_T) (t : Nat) (a1 : Int32) (M : mm_T) : im_I mi_M_runSteps 7 150 G M sw_i (ff_M_runSteps t a1 M) 0 [some (.ref t), some (.int a1)] [] M := by
  unfold ff_M_runSteps
  refine im_gd (fun hg => ?_)
  refine im_aload_n 0 0 rfl rfl ?_
  refine im_iconst 1 1 rfl rfl ?_
  refine im_putI 2 2 rfl fd_M_55 (Or.inl (by decide +kernel)) (by decide +kernel) (fun M1 => ?_)
  refine im_aload_n 3 5 rfl rfl ?_
  refine im_iload_n 4 6 rfl rfl ?_
  refine im_iconst 5 7 rfl rfl ?_
  refine im_iconst 6 8 rfl rfl ?_
  refine im_cWi (S := []) (fun _ _ hv => cpV (fr' := 2) (lo' := 42) (i := 7) (As := [.int a1, .int (1 : Int32), .int (1 : Int32)]) (S := []) (a := t) (c := 11) rfl lk_M_377 mw_M_isCount mv_M_isCount rfl ⟨by decide, rfl⟩ rfl rfl rfl (gd_some hv).1 (sp_M_isCount G hv)) (fun x1 M2 => ?_)
  refine im_if_ne 8 12 17 rfl (by decide) ?_ ?_
  · refine im_aload_n 11 17 rfl rfl ?_
    refine im_iload_n 12 18 rfl rfl ?_
    refine im_cWi (S := []) (fun _ _ hv => cpV (fr' := 6) (lo' := 128) (i := 13) (As := [.int a1]) (S := []) (a := t) (c := 11) rfl lk_M_380 mw_M_runs mv_M_runs rfl ⟨by decide, rfl⟩ rfl rfl rfl (gd_some hv).1 (sp_M_runs G hv)) (fun x2 M3 => ?_)
    exact im_end rfl (wp_ireturn 14 22 rfl rfl)
  · refine im_iconst 9 15 rfl rfl ?_
    exact im_end rfl (wp_ireturn 10 16 rfl rfl)

theorem sp_M_runSteps (G : gl_T) {t : Nat} {a1 : Int32} {M : mm_T} {y : Int32 × mm_T} (h : ff_M_runSteps t a1 M = some y) : sp_S mi_M_runSteps 7 150 G [.ref t, .int a1] M (sw_i y).1 (sw_i y).2 := sp_of mo_M_runSteps mw_M_runSteps (Or.inl (by decide +kernel)) rfl rfl (Or.inl rfl) (ip_M_runSteps G t a1 M y h)

set_option maxRecDepth 100000 in
set_option maxHeartbeats 4000000 in
theorem ip_M_runEnds (G : gl_T) (t : Nat) (a1 : Int32) (M : mm_T) : im_I mi_M_runEnds 7 150 G M sw_i (ff_M_runEnds t a1 M) 0 [some (.ref t), some (.int a1), none] [] M := by
  unfold ff_M_runEnds
  refine im_gd (fun hg => ?_)
  refine im_aload_n 0 0 rfl rfl ?_
  refine im_iconst 1 1 rfl rfl ?_
  refine im_putI 2 2 rfl fd_M_55 (Or.inl (by decide +kernel)) (by decide +kernel) (fun M1 => ?_)
  refine im_aload_n 3 5 rfl rfl ?_
  refine im_iload_n 4 6 rfl rfl ?_
  refine im_iconst 5 7 rfl rfl ?_
  refine im_iconst 6 8 rfl rfl ?_
  refine im_cWi (S := []) (fun _ _ hv => cpV (fr' := 2) (lo' := 42) (i := 7) (As := [.int a1, .int (1 : Int32), .int (1 : Int32)]) (S := []) (a := t) (c := 11) rfl lk_M_377 mw_M_isCount mv_M_isCount rfl ⟨by decide, rfl⟩ rfl rfl rfl (gd_some hv).1 (sp_M_isCount G hv)) (fun x1 M2 => ?_)
  refine im_if_ne 8 12 17 rfl (by decide) ?_ ?_
  · refine im_aload_n 11 17 rfl rfl ?_
    refine im_iload_n 12 18 rfl rfl ?_
    refine im_cWi (S := []) (fun _ _ hv => cpV (fr' := 6) (lo' := 128) (i := 13) (As := [.int a1]) (S := []) (a := t) (c := 11) rfl lk_M_380 mw_M_runs mv_M_runs rfl ⟨by decide, rfl⟩ rfl rfl rfl (gd_some hv).1 (sp_M_runs G hv)) (fun x2 M3 => ?_)
    refine im_istore_n 14 22 [some (.ref t), some (.int a1), some (.int x2)] rfl rfl rfl ?_
    refine im_aload_n 15 23 rfl rfl ?_
    refine im_getI 16 24 rfl fd_M_213 (by decide +kernel) (fun x3 => ?_)
    exact im_endZ (fun _ => rfl) (fun hn => wp_zreturn 17 27 (ty := .boolean) rfl hn rfl)
  · refine im_iconst 9 15 rfl rfl ?_
    exact im_end rfl (wp_zreturn 10 16 (ty := .boolean) rfl (by first | exact nz_0 | exact nz_1) rfl)

theorem sp_M_runEnds (G : gl_T) {t : Nat} {a1 : Int32} {M : mm_T} {y : Int32 × mm_T} (h : ff_M_runEnds t a1 M = some y) : sp_S mi_M_runEnds 7 150 G [.ref t, .int a1] M (sw_i y).1 (sw_i y).2 := sp_of mo_M_runEnds mw_M_runEnds (Or.inl (by decide +kernel)) rfl rfl (Or.inl rfl) (ip_M_runEnds G t a1 M y h)

set_option maxRecDepth 100000 in
set_option maxHeartbeats 4000000 in
theorem ip_M_valueAfter (G : gl_T) (t : Nat) (a1 : Int32) (a2 : Int32) (M : mm_T) : im_I mi_M_valueAfter 7 150 G M sw_i (ff_M_valueAfter t a1 a2 M) 0 [some (.ref t), some (.int a1), some (.int a2), none] [] M := by
  unfold ff_M_valueAfter
  refine im_gd (fun hg => ?_)
  refine im_aload_n 0 0 rfl rfl ?_
  refine im_iconst 1 1 rfl rfl ?_
  refine im_putI 2 2 rfl fd_M_55 (Or.inl (by decide +kernel)) (by decide +kernel) (fun M1 => ?_)
  refine im_aload_n 3 5 rfl rfl ?_
  refine im_iload_n 4 6 rfl rfl ?_
  refine im_iconst 5 7 rfl rfl ?_
  refine im_iconst 6 8 rfl rfl ?_
  refine im_cWi (S := []) (fun _ _ hv => cpV (fr' := 2) (lo' := 42) (i := 7) (As := [.int a1, .int (0 : Int32), .int (1 : Int32)]) (S := []) (a := t) (c := 11) rfl lk_M_377 mw_M_isCount mv_M_isCount rfl ⟨by decide, rfl⟩ rfl rfl rfl (gd_some hv).1 (sp_M_isCount G hv)) (fun x1 M2 => ?_)
  refine im_if_eq 8 12 24 rfl (by decide) ?_ ?_
  · refine im_iconst 14 24 rfl rfl ?_
    exact im_end rfl (wp_ireturn 15 25 rfl rfl)
  · refine im_aload_n 9 15 rfl rfl ?_
    refine im_iload_n 10 16 rfl rfl ?_
    refine im_iconst 11 17 rfl rfl ?_
    refine im_cWi (S := []) (fun _ _ hv => cpV (fr' := 2) (lo' := 42) (i := 12) (As := [.int a2, .int (1 : Int32)]) (S := []) (a := t) (c := 11) rfl lk_M_335 mw_M_isVariable mv_M_isVariable rfl ⟨by decide, rfl⟩ rfl rfl rfl (gd_some hv).1 (sp_M_isVariable G hv)) (fun x2 M3 => ?_)
    refine im_if_ne 13 21 26 rfl (by decide) ?_ ?_
    · refine im_aload_n 16 26 rfl rfl ?_
      refine im_iload_n 17 27 rfl rfl ?_
      refine im_cWi (S := []) (fun _ _ hv => cpV (fr' := 6) (lo' := 128) (i := 18) (As := [.int a1]) (S := []) (a := t) (c := 11) rfl lk_M_380 mw_M_runs mv_M_runs rfl ⟨by decide, rfl⟩ rfl rfl rfl (gd_some hv).1 (sp_M_runs G hv)) (fun x3 M4 => ?_)
      refine im_istore_n 19 31 [some (.ref t), some (.int a1), some (.int a2), some (.int x3)] rfl rfl rfl ?_
      refine im_aload_n 20 32 rfl rfl ?_
      refine im_getR 21 33 rfl fd_M_29 (by decide +kernel) (fun x4 => ?_)
      refine im_iload_n 22 36 rfl rfl ?_
      refine im_iaload 23 37 rfl (fun x5 => ?_)
      exact im_end rfl (wp_ireturn 24 38 rfl rfl)
    · refine im_iconst 14 24 rfl rfl ?_
      exact im_end rfl (wp_ireturn 15 25 rfl rfl)

theorem sp_M_valueAfter (G : gl_T) {t : Nat} {a1 : Int32} {a2 : Int32} {M : mm_T} {y : Int32 × mm_T} (h : ff_M_valueAfter t a1 a2 M = some y) : sp_S mi_M_valueAfter 7 150 G [.ref t, .int a1, .int a2] M (sw_i y).1 (sw_i y).2 := sp_of mo_M_valueAfter mw_M_valueAfter (Or.inl (by decide +kernel)) rfl rfl (Or.inl rfl) (ip_M_valueAfter G t a1 a2 M y h)

set_option maxRecDepth 100000 in
set_option maxHeartbeats 4000000 in
theorem ip_M_lastShown (G : gl_T) (t : Nat) (a1 : Int32) (M : mm_T) : im_I mi_M_lastShown 7 150 G M sw_i (ff_M_lastShown t a1 M) 0 [some (.ref t), some (.int a1), none] [] M := by
  unfold ff_M_lastShown
  refine im_gd (fun hg => ?_)
  refine im_aload_n 0 0 rfl rfl ?_
  refine im_iconst 1 1 rfl rfl ?_
  refine im_putI 2 2 rfl fd_M_55 (Or.inl (by decide +kernel)) (by decide +kernel) (fun M1 => ?_)
  refine im_aload_n 3 5 rfl rfl ?_
  refine im_iload_n 4 6 rfl rfl ?_
  refine im_iconst 5 7 rfl rfl ?_
  refine im_iconst 6 8 rfl rfl ?_
  refine im_cWi (S := []) (fun _ _ hv => cpV (fr' := 2) (lo' := 42) (i := 7) (As := [.int a1, .int (0 : Int32), .int (1 : Int32)]) (S := []) (a := t) (c := 11) rfl lk_M_377 mw_M_isCount mv_M_isCount rfl ⟨by decide, rfl⟩ rfl rfl rfl (gd_some hv).1 (sp_M_isCount G hv)) (fun x1 M2 => ?_)
  refine im_if_ne 8 12 17 rfl (by decide) ?_ ?_
  · refine im_aload_n 11 17 rfl rfl ?_
    refine im_iload_n 12 18 rfl rfl ?_
    refine im_cWi (S := []) (fun _ _ hv => cpV (fr' := 6) (lo' := 128) (i := 13) (As := [.int a1]) (S := []) (a := t) (c := 11) rfl lk_M_380 mw_M_runs mv_M_runs rfl ⟨by decide, rfl⟩ rfl rfl rfl (gd_some hv).1 (sp_M_runs G hv)) (fun x2 M3 => ?_)
    refine im_istore_n 14 22 [some (.ref t), some (.int a1), some (.int x2)] rfl rfl rfl ?_
    refine im_aload_n 15 23 rfl rfl ?_
    refine im_getI 16 24 rfl fd_M_210 (by decide +kernel) (fun x3 => ?_)
    exact im_end rfl (wp_ireturn 17 27 rfl rfl)
  · refine im_iconst 9 15 rfl rfl ?_
    exact im_end rfl (wp_ireturn 10 16 rfl rfl)

theorem sp_M_lastShown (G : gl_T) {t : Nat} {a1 : Int32} {M : mm_T} {y : Int32 × mm_T} (h : ff_M_lastShown t a1 M = some y) : sp_S mi_M_lastShown 7 150 G [.ref t, .int a1] M (sw_i y).1 (sw_i y).2 := sp_of mo_M_lastShown mw_M_lastShown (Or.inl (by decide +kernel)) rfl rfl (Or.inl rfl) (ip_M_lastShown G t a1 M y h)

set_option maxRecDepth 100000 in
set_option maxHeartbeats 4000000 in
theorem li_M_visits_40 (G : gl_T) (M0 : mm_T) (p0 : Nat) (p1 : Int32) (p2 : Int32) : ∀ (fu : Nat) (q3 : Int32) (q4 : Int32) (N : mm_T), im_I mi_M_visits 6 128 G M0 sw_i (lf_M_visits_40 p0 p1 p2 fu q3 q4 N) 40 [some (.ref p0), some (.int p1), some (.int p2), some (.int q3), some (.int q4), none] [] N := by
  intro fu
  induction fu with
  | zero => intro _ _ _; exact im_none
  | succ fu ih =>
    intro q3 q4 N
    show im_I mi_M_visits 6 128 G M0 sw_i (lb_M_visits_40 p0 p1 p2 (lf_M_visits_40 p0 p1 p2 fu) q3 q4 N) 40 [some (.ref p0), some (.int p1), some (.int p2), some (.int q3), some (.int q4), none] [] N
    unfold lb_M_visits_40
    refine im_iload 23 40 rfl rfl ?_
    refine im_iload_n 24 42 rfl rfl ?_
    refine im_ic_ge 25 43 116 rfl (by decide) ?_ ?_
    · refine im_iload_n 60 116 rfl rfl ?_
      exact im_end rfl (wp_ireturn 61 117 rfl rfl)
    · refine im_aload_n 26 46 rfl rfl ?_
      refine im_getI 27 47 rfl fd_M_213 (by decide +kernel) (fun x5 => ?_)
      refine im_if_ne 28 50 116 rfl (by decide) ?_ ?_
      · refine im_iload_n 60 116 rfl rfl ?_
        exact im_end rfl (wp_ireturn 61 117 rfl rfl)
      · refine im_aload_n 29 53 rfl rfl ?_
        refine im_getI 30 54 rfl fd_M_207 (by decide +kernel) (fun x6 => ?_)
        refine im_aload_n 31 57 rfl rfl ?_
        refine im_aload_n 32 58 rfl rfl ?_
        refine im_getI 33 59 rfl fd_M_204 (by decide +kernel) (fun x7 => ?_)
        refine im_ci (S := [.int x6]) (fun _ hv => cpV (fr' := 4) (lo' := 86) (i := 34) (As := [.int x7]) (S := [.int x6]) (a := p0) (c := 11) rfl lk_M_87 mw_M_endOf mv_M_endOf rfl ⟨by decide, rfl⟩ rfl rfl rfl (gd_some hv).1 (sp_M_endOf G hv)) (fun x8 => ?_)
        refine im_jp (fun j73 => ∀ (x9 : Int32), im_I mi_M_visits 6 128 G M0 sw_i (j73 x9) 73 [some (.ref p0), some (.int p1), some (.int p2), some (.int q3), some (.int q4), none] [.int x9] N) ?_ (fun j73 hj73 => ?_)
        · intro x9
          show im_I mi_M_visits 6 128 G M0 sw_i (_) 73 [some (.ref p0), some (.int p1), some (.int p2), some (.int q3), some (.int q4), none] [.int x9] N
          refine im_istore 39 73 [some (.ref p0), some (.int p1), some (.int p2), some (.int q3), some (.int q4), some (.int x9)] rfl rfl rfl ?_
          refine im_aload_n 40 75 rfl rfl ?_
          refine im_cWv (S := []) (fun _ hv => cpV (fr' := 5) (lo' := 107) (i := 41) (As := []) (S := []) (a := p0) (c := 11) rfl lk_M_223 mw_M_steps mv_M_steps rfl ⟨by decide, rfl⟩ rfl rfl rfl (gd_some hv).1 (sp_M_steps G hv)) (fun M4 => ?_)
          refine im_iload_n 42 79 rfl rfl ?_
          refine im_iload 43 80 rfl rfl ?_
          refine im_jp (fun j105 => ∀ (x10 : Int32), im_I mi_M_visits 6 128 G M0 sw_i (j105 x10) 105 [some (.ref p0), some (.int p1), some (.int p2), none, some (.int q4), none] [.int x10, .int q3] M4) ?_ (fun j105 hj105 => ?_)
          · intro x10
            show im_I mi_M_visits 6 128 G M0 sw_i (_) 105 [some (.ref p0), some (.int p1), some (.int p2), none, some (.int q4), none] [.int x10, .int q3] M4
            refine im_ci (S := [.int q3]) (fun _ hv => cpS (fr' := 1) (lo' := 20) (i := 55) (As := [.int x10]) (S := [.int q3]) rfl lk_M_117 mw_M_one mv_M_one rfl rfl rfl rfl (sp_M_one G hv)) (fun x11 => ?_)
            refine im_iadd 56 108 rfl ?_
            refine im_letI (fun x12 => ?_)
            refine im_istore_n 57 109 [some (.ref p0), some (.int p1), some (.int p2), some (.int x12), some (.int q4), none] rfl rfl rfl ?_
            refine im_iincL 58 110 (fun x13 => [some (.ref p0), some (.int p1), some (.int p2), some (.int x12), some (.int x13), none]) rfl rfl rfl rfl (fun _ => rfl) (fun x13 => ?_)
            refine im_goto 59 113 40 rfl (by decide) ?_
            exact im_less _ (by simp [lv_le]) (ih x12 x13 M4)
          refine im_jp (fun j104 => im_I mi_M_visits 6 128 G M0 sw_i (j104) 104 [some (.ref p0), some (.int p1), some (.int p2), none, some (.int q4), none] [.int q3] M4) ?_ (fun j104 hj104 => ?_)
          · show im_I mi_M_visits 6 128 G M0 sw_i (_) 104 [some (.ref p0), some (.int p1), some (.int p2), none, some (.int q4), none] [.int q3] M4
            refine im_iconst 54 104 rfl rfl ?_
            exact im_less _ (by simp [lv_le]) (hj105 (0 : Int32))
          refine im_if_eq 44 82 104 rfl (by decide) ?_ ?_
          · exact im_less _ (by simp [lv_le]) (hj104)
          · refine im_aload_n 45 85 rfl rfl ?_
            refine im_getI 46 86 rfl fd_M_213 (by decide +kernel) (fun x14 => ?_)
            refine im_if_ne 47 89 104 rfl (by decide) ?_ ?_
            · exact im_less _ (by simp [lv_le]) (hj104)
            · refine im_aload_n 48 92 rfl rfl ?_
              refine im_getI 49 93 rfl fd_M_204 (by decide +kernel) (fun x15 => ?_)
              refine im_iload_n 50 96 rfl rfl ?_
              refine im_ic_ne 51 97 104 rfl (by decide) ?_ ?_
              · exact im_less _ (by simp [lv_le]) (hj104)
              · refine im_iconst 52 100 rfl rfl ?_
                refine im_goto 53 101 105 rfl (by decide) ?_
                exact im_less _ (by simp [lv_le]) (hj105 (1 : Int32))
        refine im_ic_ne 35 65 72 rfl (by decide) ?_ ?_
        · refine im_iconst 38 72 rfl rfl ?_
          exact im_less _ (by simp [lv_le]) (hj73 (0 : Int32))
        · refine im_iconst 36 68 rfl rfl ?_
          refine im_goto 37 69 73 rfl (by decide) ?_
          exact im_less _ (by simp [lv_le]) (hj73 (1 : Int32))

set_option maxRecDepth 100000 in
set_option maxHeartbeats 4000000 in
theorem ip_M_visits (G : gl_T) (t : Nat) (a1 : Int32) (a2 : Int32) (M : mm_T) : im_I mi_M_visits 6 128 G M sw_i (ff_M_visits t a1 a2 M) 0 [some (.ref t), some (.int a1), some (.int a2), none, none, none] [] M := by
  unfold ff_M_visits
  refine im_gd (fun hg => ?_)
  refine im_aload_n 0 0 rfl rfl ?_
  refine im_iload_n 1 1 rfl rfl ?_
  refine im_cWi (S := []) (fun _ _ hv => cpV (fr' := 2) (lo' := 42) (i := 2) (As := [.int a1]) (S := []) (a := t) (c := 11) rfl lk_M_329 mw_M_isBlock mv_M_isBlock rfl ⟨by decide, rfl⟩ rfl rfl rfl (gd_some hv).1 (sp_M_isBlock G hv)) (fun x1 M1 => ?_)
  refine im_if_eq 3 5 18 rfl (by decide) ?_ ?_
  · refine im_iconst 10 18 rfl rfl ?_
    exact im_end rfl (wp_ireturn 11 19 rfl rfl)
  · refine im_aload_n 4 8 rfl rfl ?_
    refine im_iload_n 5 9 rfl rfl ?_
    refine im_iconst 6 10 rfl rfl ?_
    refine im_iconst 7 11 rfl rfl ?_
    refine im_cWi (S := []) (fun _ _ hv => cpV (fr' := 2) (lo' := 42) (i := 8) (As := [.int a2, .int (0 : Int32), .int (2 : Int32)]) (S := []) (a := t) (c := 11) rfl lk_M_377 mw_M_isCount mv_M_isCount rfl ⟨by decide, rfl⟩ rfl rfl rfl (gd_some hv).1 (sp_M_isCount G hv)) (fun x2 M2 => ?_)
    refine im_if_ne 9 15 20 rfl (by decide) ?_ ?_
    · refine im_aload_n 12 20 rfl rfl ?_
      refine im_cWv (S := []) (fun _ hv => cpV (fr' := 4) (lo' := 86) (i := 13) (As := []) (S := []) (a := t) (c := 11) rfl lk_M_220 mw_M_begins mv_M_begins rfl ⟨by decide, rfl⟩ rfl rfl rfl (gd_some hv).1 (sp_M_begins G hv)) (fun M3 => ?_)
      refine im_iload_n 14 24 rfl rfl ?_
      refine im_jp (fun j33 => ∀ (x3 : Int32), im_I mi_M_visits 6 128 G M sw_i (j33 x3) 33 [some (.ref t), some (.int a1), some (.int a2), none, none, none] [.int x3] M3) ?_ (fun j33 hj33 => ?_)
      · intro x3
        show im_I mi_M_visits 6 128 G M sw_i (_) 33 [some (.ref t), some (.int a1), some (.int a2), none, none, none] [.int x3] M3
        refine im_ci (S := []) (fun _ hv => cpS (fr' := 1) (lo' := 20) (i := 19) (As := [.int x3]) (S := []) rfl lk_M_117 mw_M_one mv_M_one rfl rfl rfl rfl (sp_M_one G hv)) (fun x4 => ?_)
        refine im_istore_n 20 36 [some (.ref t), some (.int a1), some (.int a2), some (.int x4), none, none] rfl rfl rfl ?_
        refine im_iconst 21 37 rfl rfl ?_
        refine im_istore 22 38 [some (.ref t), some (.int a1), some (.int a2), some (.int x4), some (.int (0 : Int32)), none] rfl rfl rfl ?_
        refine im_less [some (.ref t), some (.int a1), some (.int a2), some (.int x4), some (.int (0 : Int32)), none] (by simp [lv_le]) ?_
        exact li_M_visits_40 G M t a1 a2 fu_L x4 (0 : Int32) M3
      refine im_if_ne 15 25 32 rfl (by decide) ?_ ?_
      · refine im_iconst 18 32 rfl rfl ?_
        exact im_less _ (by simp [lv_le]) (hj33 (0 : Int32))
      · refine im_iconst 16 28 rfl rfl ?_
        refine im_goto 17 29 33 rfl (by decide) ?_
        exact im_less _ (by simp [lv_le]) (hj33 (1 : Int32))
    · refine im_iconst 10 18 rfl rfl ?_
      exact im_end rfl (wp_ireturn 11 19 rfl rfl)

theorem sp_M_visits (G : gl_T) {t : Nat} {a1 : Int32} {a2 : Int32} {M : mm_T} {y : Int32 × mm_T} (h : ff_M_visits t a1 a2 M = some y) : sp_S mi_M_visits 6 128 G [.ref t, .int a1, .int a2] M (sw_i y).1 (sw_i y).2 := sp_of mo_M_visits mw_M_visits (Or.inl (by decide +kernel)) rfl rfl (Or.inl rfl) (ip_M_visits G t a1 a2 M y h)

set_option maxRecDepth 100000 in
set_option maxHeartbeats 4000000 in
theorem li_M_auditDifference_51 (G : gl_T) (M0 : mm_T) (k0 : Int32 → mm_T → Option (Int32 × mm_T)) (p0 : Nat) (p2 : Nat) (p3 : Int32) (hk0 : ∀ (z1 : Int32) (N : mm_T), im_I mi_M_auditDifference 22 511 G M0 sw_i (k0 z1 N) 137 [some (.ref p0), some (.int z1), some (.ref p2), some (.int p3), none] [] N) : ∀ (fu : Nat) (q1 : Int32) (q4 : Int32) (N : mm_T), im_I mi_M_auditDifference 22 511 G M0 sw_i (lf_M_auditDifference_51 k0 p0 p2 p3 fu q1 q4 N) 51 [some (.ref p0), some (.int q1), some (.ref p2), some (.int p3), some (.int q4)] [] N := by
  intro fu
  induction fu with
  | zero => intro _ _ _; exact im_none
  | succ fu ih =>
    intro q1 q4 N
    show im_I mi_M_auditDifference 22 511 G M0 sw_i (lb_M_auditDifference_51 k0 p0 p2 p3 (lf_M_auditDifference_51 k0 p0 p2 p3 fu) q1 q4 N) 51 [some (.ref p0), some (.int q1), some (.ref p2), some (.int p3), some (.int q4)] [] N
    unfold lb_M_auditDifference_51
    refine im_iload 28 51 rfl rfl ?_
    refine im_bipush 29 53 rfl rfl ?_
    refine im_ic_ge 30 55 137 rfl (by decide) ?_ ?_
    · exact im_less _ (by simp [lv_le]) (hk0 q1 N)
    · refine im_iload_n 31 58 rfl rfl ?_
      refine im_aload_n 32 59 rfl rfl ?_
      refine im_getR 33 60 rfl fd_M_26 (by decide +kernel) (fun x5 => ?_)
      refine im_iload 34 63 rfl rfl ?_
      refine im_iaload 35 65 rfl (fun x6 => ?_)
      refine im_jp (fun j91 => ∀ (x7 : Int32), im_I mi_M_auditDifference 22 511 G M0 sw_i (j91 x7) 91 [some (.ref p0), none, some (.ref p2), some (.int p3), some (.int q4)] [.int x7, .int q1] N) ?_ (fun j91 hj91 => ?_)
      · intro x7
        show im_I mi_M_auditDifference 22 511 G M0 sw_i (_) 91 [some (.ref p0), none, some (.ref p2), some (.int p3), some (.int q4)] [.int x7, .int q1] N
        refine im_ci (S := [.int q1]) (fun _ hv => cpS (fr' := 1) (lo' := 20) (i := 49) (As := [.int x7]) (S := [.int q1]) rfl lk_M_117 mw_M_one mv_M_one rfl rfl rfl rfl (sp_M_one G hv)) (fun x8 => ?_)
        refine im_iadd 50 94 rfl ?_
        refine im_letI (fun x9 => ?_)
        refine im_istore_n 51 95 [some (.ref p0), some (.int x9), some (.ref p2), some (.int p3), some (.int q4)] rfl rfl rfl ?_
        refine im_iload_n 52 96 rfl rfl ?_
        refine im_aload_n 53 97 rfl rfl ?_
        refine im_iload 54 98 rfl rfl ?_
        refine im_baload 55 100 rfl (fun x10 => ?_)
        refine im_jp (fun j126 => ∀ (x11 : Int32) (M6 : mm_T), im_I mi_M_auditDifference 22 511 G M0 sw_i (j126 x11 M6) 126 [some (.ref p0), none, some (.ref p2), some (.int p3), some (.int q4)] [.int x11, .int x9] M6) ?_ (fun j126 hj126 => ?_)
        · intro x11 M6
          show im_I mi_M_auditDifference 22 511 G M0 sw_i (_) 126 [some (.ref p0), none, some (.ref p2), some (.int p3), some (.int q4)] [.int x11, .int x9] M6
          refine im_ci (S := [.int x9]) (fun _ hv => cpS (fr' := 1) (lo' := 20) (i := 68) (As := [.int x11]) (S := [.int x9]) rfl lk_M_117 mw_M_one mv_M_one rfl rfl rfl rfl (sp_M_one G hv)) (fun x12 => ?_)
          refine im_iadd 69 129 rfl ?_
          refine im_letI (fun x13 => ?_)
          refine im_istore_n 70 130 [some (.ref p0), some (.int x13), some (.ref p2), some (.int p3), some (.int q4)] rfl rfl rfl ?_
          refine im_iincL 71 131 (fun x14 => [some (.ref p0), some (.int x13), some (.ref p2), some (.int p3), some (.int x14)]) rfl rfl rfl rfl (fun _ => rfl) (fun x14 => ?_)
          refine im_goto 72 134 51 rfl (by decide) ?_
          exact im_less _ (by simp [lv_le]) (ih x13 x14 M6)
        refine im_jp (fun j125 => ∀  (M7 : mm_T), im_I mi_M_auditDifference 22 511 G M0 sw_i (j125 M7) 125 [some (.ref p0), none, some (.ref p2), some (.int p3), some (.int q4)] [.int x9] M7) ?_ (fun j125 hj125 => ?_)
        · intro M7
          show im_I mi_M_auditDifference 22 511 G M0 sw_i (_) 125 [some (.ref p0), none, some (.ref p2), some (.int p3), some (.int q4)] [.int x9] M7
          refine im_iconst 67 125 rfl rfl ?_
          exact im_less _ (by simp [lv_le]) (hj126 (0 : Int32) M7)
        refine im_if_ne 56 101 125 rfl (by decide) ?_ ?_
        · exact im_less _ (by simp [lv_le]) (hj125 N)
        · refine im_aload_n 57 104 rfl rfl ?_
          refine im_aload_n 58 105 rfl rfl ?_
          refine im_getI 59 106 rfl fd_M_204 (by decide +kernel) (fun x15 => ?_)
          refine im_aload_n 60 109 rfl rfl ?_
          refine im_getI 61 110 rfl fd_M_207 (by decide +kernel) (fun x16 => ?_)
          refine im_iload 62 113 rfl rfl ?_
          refine im_cWi (S := [.int x9]) (fun _ _ hv => cpV (fr' := 21) (lo' := 488) (i := 63) (As := [.int x15, .int x16, .int q4]) (S := [.int x9]) (a := p0) (c := 11) rfl lk_M_341 mw_M_isFirstAtPlace mv_M_isFirstAtPlace rfl ⟨by decide, rfl⟩ rfl rfl rfl (gd_some hv).1 (sp_M_isFirstAtPlace G hv)) (fun x17 M8 => ?_)
          refine im_if_ne 64 118 125 rfl (by decide) ?_ ?_
          · exact im_less _ (by simp [lv_le]) (hj125 M8)
          · refine im_iconst 65 121 rfl rfl ?_
            refine im_goto 66 122 126 rfl (by decide) ?_
            exact im_less _ (by simp [lv_le]) (hj126 (1 : Int32) M8)
      refine im_jp (fun j90 => im_I mi_M_auditDifference 22 511 G M0 sw_i (j90) 90 [some (.ref p0), none, some (.ref p2), some (.int p3), some (.int q4)] [.int q1] N) ?_ (fun j90 hj90 => ?_)
      · show im_I mi_M_auditDifference 22 511 G M0 sw_i (_) 90 [some (.ref p0), none, some (.ref p2), some (.int p3), some (.int q4)] [.int q1] N
        refine im_iconst 48 90 rfl rfl ?_
        exact im_less _ (by simp [lv_le]) (hj91 (0 : Int32))
      refine im_if_lt 36 66 90 rfl (by decide) ?_ ?_
      · exact im_less _ (by simp [lv_le]) (hj90)
      · refine im_aload_n 37 69 rfl rfl ?_
        refine im_getR 38 70 rfl fd_M_26 (by decide +kernel) (fun x18 => ?_)
        refine im_iload 39 73 rfl rfl ?_
        refine im_iaload 40 75 rfl (fun x19 => ?_)
        refine im_aload_n 41 76 rfl rfl ?_
        refine im_getR 42 77 rfl fd_M_29 (by decide +kernel) (fun x20 => ?_)
        refine im_iload 43 80 rfl rfl ?_
        refine im_iaload 44 82 rfl (fun x21 => ?_)
        refine im_ic_eq 45 83 90 rfl (by decide) ?_ ?_
        · exact im_less _ (by simp [lv_le]) (hj90)
        · refine im_iconst 46 86 rfl rfl ?_
          refine im_goto 47 87 91 rfl (by decide) ?_
          exact im_less _ (by simp [lv_le]) (hj91 (1 : Int32))

set_option maxRecDepth 100000 in
set_option maxHeartbeats 4000000 in
theorem li_M_auditDifference_22 (G : gl_T) (M0 : mm_T) (p0 : Nat) (p2 : Nat) : ∀ (fu : Nat) (q1 : Int32) (q3 : Int32) (N : mm_T), im_I mi_M_auditDifference 22 511 G M0 sw_i (lf_M_auditDifference_22 p0 p2 fu q1 q3 N) 22 [some (.ref p0), some (.int q1), some (.ref p2), some (.int q3), none] [] N := by
  intro fu
  induction fu with
  | zero => intro _ _ _; exact im_none
  | succ fu ih =>
    intro q1 q3 N
    show im_I mi_M_auditDifference 22 511 G M0 sw_i (lb_M_auditDifference_22 p0 p2 (lf_M_auditDifference_22 p0 p2 fu) q1 q3 N) 22 [some (.ref p0), some (.int q1), some (.ref p2), some (.int q3), none] [] N
    unfold lb_M_auditDifference_22
    refine im_iload_n 14 22 rfl rfl ?_
    refine im_sipush 15 23 rfl rfl ?_
    refine im_ic_ge 16 26 185 rfl (by decide) ?_ ?_
    · refine im_iload_n 97 185 rfl rfl ?_
      exact im_end rfl (wp_ireturn 98 186 rfl rfl)
    · refine im_aload_n 17 29 rfl rfl ?_
      refine im_getI 18 30 rfl fd_M_213 (by decide +kernel) (fun x2 => ?_)
      refine im_if_ne 19 33 185 rfl (by decide) ?_ ?_
      · refine im_iload_n 97 185 rfl rfl ?_
        exact im_end rfl (wp_ireturn 98 186 rfl rfl)
      · refine im_aload_n 20 36 rfl rfl ?_
        refine im_aload_n 21 37 rfl rfl ?_
        refine im_getI 22 38 rfl fd_M_204 (by decide +kernel) (fun x3 => ?_)
        refine im_aload_n 23 41 rfl rfl ?_
        refine im_getI 24 42 rfl fd_M_207 (by decide +kernel) (fun x4 => ?_)
        refine im_cWv (S := []) (fun _ hv => cpV (fr' := 4) (lo' := 86) (i := 25) (As := [.int x3, .int x4]) (S := []) (a := p0) (c := 11) rfl lk_M_187 mw_M_comesTo mv_M_comesTo rfl ⟨by decide, rfl⟩ rfl rfl rfl (gd_some hv).1 (sp_M_comesTo G hv)) (fun M5 => ?_)
        refine im_iconst 26 48 rfl rfl ?_
        refine im_istore 27 49 [some (.ref p0), some (.int q1), some (.ref p2), some (.int q3), some (.int (0 : Int32))] rfl rfl rfl ?_
        refine im_less [some (.ref p0), some (.int q1), some (.ref p2), some (.int q3), some (.int (0 : Int32))] (by simp [lv_le]) ?_
        refine li_M_auditDifference_51 G M0 _ p0 p2 q3 ?_ fu_L q1 (0 : Int32) M5
        · intro x22 M9
          show im_I mi_M_auditDifference 22 511 G M0 sw_i (_) 137 [some (.ref p0), some (.int x22), some (.ref p2), some (.int q3), none] [] M9
          refine im_aload_n 73 137 rfl rfl ?_
          refine im_getI 74 138 rfl fd_M_207 (by decide +kernel) (fun x23 => ?_)
          refine im_aload_n 75 141 rfl rfl ?_
          refine im_aload_n 76 142 rfl rfl ?_
          refine im_getI 77 143 rfl fd_M_204 (by decide +kernel) (fun x24 => ?_)
          refine im_ci (S := [.int x23]) (fun _ hv => cpV (fr' := 4) (lo' := 86) (i := 78) (As := [.int x24]) (S := [.int x23]) (a := p0) (c := 11) rfl lk_M_87 mw_M_endOf mv_M_endOf rfl ⟨by decide, rfl⟩ rfl rfl rfl (gd_some hv).1 (sp_M_endOf G hv)) (fun x25 => ?_)
          refine im_jp (fun j175 => ∀  (M10 : mm_T), im_I mi_M_auditDifference 22 511 G M0 sw_i (j175 M10) 175 [some (.ref p0), some (.int x22), some (.ref p2), some (.int q3), none] [] M10) ?_ (fun j175 hj175 => ?_)
          · intro M10
            show im_I mi_M_auditDifference 22 511 G M0 sw_i (_) 175 [some (.ref p0), some (.int x22), some (.ref p2), some (.int q3), none] [] M10
            refine im_aload_n 93 175 rfl rfl ?_
            refine im_cWv (S := []) (fun _ hv => cpV (fr' := 5) (lo' := 107) (i := 94) (As := []) (S := []) (a := p0) (c := 11) rfl lk_M_223 mw_M_steps mv_M_steps rfl ⟨by decide, rfl⟩ rfl rfl rfl (gd_some hv).1 (sp_M_steps G hv)) (fun M11 => ?_)
            refine im_iincL 95 179 (fun x26 => [some (.ref p0), some (.int x22), some (.ref p2), some (.int x26), none]) rfl rfl rfl rfl (fun _ => rfl) (fun x26 => ?_)
            refine im_goto 96 182 22 rfl (by decide) ?_
            exact im_less _ (by simp [lv_le]) (ih x22 x26 M11)
          refine im_ic_ge 79 149 175 rfl (by decide) ?_ ?_
          · exact im_less _ (by simp [lv_le]) (hj175 M9)
          · refine im_aload_n 80 152 rfl rfl ?_
            refine im_aload_n 81 153 rfl rfl ?_
            refine im_getI 82 154 rfl fd_M_207 (by decide +kernel) (fun x27 => ?_)
            refine im_ci (S := []) (fun _ hv => cpV (fr' := 3) (lo' := 63) (i := 83) (As := [.int x27]) (S := []) (a := p0) (c := 11) rfl lk_M_99 mw_M_isDefinition mv_M_isDefinition rfl ⟨by decide, rfl⟩ rfl rfl rfl (gd_some hv).1 (sp_M_isDefinition G hv)) (fun x28 => ?_)
            refine im_if_eq 84 160 175 rfl (by decide) ?_ ?_
            · exact im_less _ (by simp [lv_le]) (hj175 M9)
            · refine im_aload_n 85 163 rfl rfl ?_
              refine im_aload_n 86 164 rfl rfl ?_
              refine im_aload_n 87 165 rfl rfl ?_
              refine im_getI 88 166 rfl fd_M_207 (by decide +kernel) (fun x29 => ?_)
              refine im_iconst 89 169 rfl rfl ?_
              refine im_ci (S := [.ref p2]) (fun _ hv => cpV (fr' := 2) (lo' := 41) (i := 90) (As := [.int x29, .int (1 : Int32)]) (S := [.ref p2]) (a := p0) (c := 11) rfl lk_M_96 mw_M_it mv_M_it rfl ⟨by decide, rfl⟩ rfl rfl rfl (gd_some hv).1 (sp_M_it G hv)) (fun x30 => ?_)
              refine im_iconst 91 173 rfl rfl ?_
              refine im_bastore 92 174 rfl (fun M12 => ?_)
              exact im_less _ (by simp [lv_le]) (hj175 M12)

set_option maxRecDepth 100000 in
set_option maxHeartbeats 4000000 in
theorem ip_M_auditDifference (G : gl_T) (t : Nat) (M : mm_T) : im_I mi_M_auditDifference 22 511 G M sw_i (ff_M_auditDifference t M) 0 [some (.ref t), none, none, none, none] [] M := by
  unfold ff_M_auditDifference
  refine im_gd (fun hg => ?_)
  refine im_aload_n 0 0 rfl rfl ?_
  refine im_iconst 1 1 rfl rfl ?_
  refine im_putI 2 2 rfl fd_M_55 (Or.inl (by decide +kernel)) (by decide +kernel) (fun M1 => ?_)
  refine im_iconst 3 5 rfl rfl ?_
  refine im_istore_n 4 6 [some (.ref t), some (.int (0 : Int32)), none, none, none] rfl rfl rfl ?_
  refine im_bipush 5 7 rfl rfl ?_
  refine im_newZ 6 9 rfl (tb_m 1909 (by decide +kernel) rfl) (fun x1 M2 => ?_)
  refine im_astore_n 7 11 [some (.ref t), some (.int (0 : Int32)), some (.ref x1), none, none] rfl rfl rfl ?_
  refine im_aload_n 8 12 rfl rfl ?_
  refine im_cWv (S := []) (fun _ hv => cpV (fr' := 4) (lo' := 86) (i := 9) (As := []) (S := []) (a := t) (c := 11) rfl lk_M_220 mw_M_begins mv_M_begins rfl ⟨by decide, rfl⟩ rfl rfl rfl (gd_some hv).1 (sp_M_begins G hv)) (fun M3 => ?_)
  refine im_aload_n 10 16 rfl rfl ?_
  refine im_cWv (S := []) (fun _ hv => cpV (fr' := 21) (lo' := 488) (i := 11) (As := []) (S := []) (a := t) (c := 11) rfl lk_M_196 mw_M_findsConstants mv_M_findsConstants rfl ⟨by decide, rfl⟩ rfl rfl rfl (gd_some hv).1 (sp_M_findsConstants G hv)) (fun M4 => ?_)
  refine im_iconst 12 20 rfl rfl ?_
  refine im_istore_n 13 21 [some (.ref t), some (.int (0 : Int32)), some (.ref x1), some (.int (0 : Int32)), none] rfl rfl rfl ?_
  refine im_less [some (.ref t), some (.int (0 : Int32)), some (.ref x1), some (.int (0 : Int32)), none] (by simp [lv_le]) ?_
  exact li_M_auditDifference_22 G M t x1 fu_L (0 : Int32) (0 : Int32) M4

theorem sp_M_auditDifference (G : gl_T) {t : Nat} {M : mm_T} {y : Int32 × mm_T} (h : ff_M_auditDifference t M = some y) : sp_S mi_M_auditDifference 22 511 G [.ref t] M (sw_i y).1 (sw_i y).2 := sp_of mo_M_auditDifference mw_M_auditDifference (Or.inl (by decide +kernel)) rfl rfl (Or.inl rfl) (ip_M_auditDifference G t M y h)

set_option maxRecDepth 100000 in
set_option maxHeartbeats 4000000 in
theorem li_M_definitions_4 (G : gl_T) (p0 : Nat) (M : mm_T) : ∀ (fu : Nat) (q1 : Int32) (q2 : Int32), im_I mi_M_definitions 4 84 G M (sh_i M) (lf_M_definitions_4 p0 M fu q1 q2) 4 [some (.ref p0), some (.int q1), some (.int q2)] [] M := by
  intro fu
  induction fu with
  | zero => intro _ _; exact im_none
  | succ fu ih =>
    intro q1 q2
    show im_I mi_M_definitions 4 84 G M (sh_i M) (lb_M_definitions_4 p0 M (lf_M_definitions_4 p0 M fu) q1 q2) 4 [some (.ref p0), some (.int q1), some (.int q2)] [] M
    unfold lb_M_definitions_4
    refine im_iload_n 4 4 rfl rfl ?_
    refine im_aload_n 5 5 rfl rfl ?_
    refine im_iconst 6 6 rfl rfl ?_
    refine im_ci (S := [.int q2]) (fun _ hv => cpV (fr' := 1) (lo' := 20) (i := 7) (As := [.int (1 : Int32)]) (S := [.int q2]) (a := p0) (c := 11) rfl lk_M_61 mw_M_get mv_M_get rfl ⟨by decide, rfl⟩ rfl rfl rfl (gd_some hv).1 (sp_M_get G hv)) (fun x1 => ?_)
    refine im_ic_ge 8 10 30 rfl (by decide) ?_ ?_
    · refine im_iload_n 18 30 rfl rfl ?_
      exact im_end rfl (wp_ireturn 19 31 rfl rfl)
    · refine im_iload_n 9 13 rfl rfl ?_
      refine im_aload_n 10 14 rfl rfl ?_
      refine im_iload_n 11 15 rfl rfl ?_
      refine im_ci (S := [.int q1]) (fun _ hv => cpV (fr' := 3) (lo' := 63) (i := 12) (As := [.int q2]) (S := [.int q1]) (a := p0) (c := 11) rfl lk_M_99 mw_M_isDefinition mv_M_isDefinition rfl ⟨by decide, rfl⟩ rfl rfl rfl (gd_some hv).1 (sp_M_isDefinition G hv)) (fun x2 => ?_)
      refine im_ci (S := [.int q1]) (fun _ hv => cpS (fr' := 1) (lo' := 20) (i := 13) (As := [.int x2]) (S := [.int q1]) rfl lk_M_117 mw_M_one mv_M_one rfl rfl rfl rfl (sp_M_one G hv)) (fun x3 => ?_)
      refine im_iadd 14 22 rfl ?_
      refine im_letI (fun x4 => ?_)
      refine im_istore_n 15 23 [some (.ref p0), some (.int x4), some (.int q2)] rfl rfl rfl ?_
      refine im_iincL 16 24 (fun x5 => [some (.ref p0), some (.int x4), some (.int x5)]) rfl rfl rfl rfl (fun _ => rfl) (fun x5 => ?_)
      refine im_goto 17 27 4 rfl (by decide) ?_
      exact im_less _ (by simp [lv_le]) (ih x4 x5)

set_option maxRecDepth 100000 in
set_option maxHeartbeats 4000000 in
theorem ip_M_definitions (G : gl_T) (t : Nat) (M : mm_T) : im_I mi_M_definitions 4 84 G M (sh_i M) (ff_M_definitions t M) 0 [some (.ref t), none, none] [] M := by
  unfold ff_M_definitions
  refine im_gd (fun hg => ?_)
  refine im_iconst 0 0 rfl rfl ?_
  refine im_istore_n 1 1 [some (.ref t), some (.int (0 : Int32)), none] rfl rfl rfl ?_
  refine im_iconst 2 2 rfl rfl ?_
  refine im_istore_n 3 3 [some (.ref t), some (.int (0 : Int32)), some (.int (0 : Int32))] rfl rfl rfl ?_
  refine im_less [some (.ref t), some (.int (0 : Int32)), some (.int (0 : Int32))] (by simp [lv_le]) ?_
  exact li_M_definitions_4 G t M fu_L (0 : Int32) (0 : Int32)

theorem sp_M_definitions (G : gl_T) {t : Nat} {M : mm_T} {y : Int32} (h : ff_M_definitions t M = some y) : sp_S mi_M_definitions 4 84 G [.ref t] M ((sh_i M) y).1 ((sh_i M) y).2 := sp_of mo_M_definitions mw_M_definitions (Or.inl (by decide +kernel)) rfl rfl (Or.inl rfl) (ip_M_definitions G t M y h)

set_option maxRecDepth 100000 in
set_option maxHeartbeats 4000000 in
theorem ip_M_deadShare (G : gl_T) (t : Nat) (M : mm_T) : im_I mi_M_deadShare 24 557 G M sw_f (ff_M_deadShare t M) 0 [some (.ref t)] [] M := by
  unfold ff_M_deadShare
  refine im_gd (fun hg => ?_)
  refine im_aload_n 0 0 rfl rfl ?_
  refine im_iconst 1 1 rfl rfl ?_
  refine im_putI 2 2 rfl fd_M_55 (Or.inl (by decide +kernel)) (by decide +kernel) (fun M1 => ?_)
  refine im_aload_n 3 5 rfl rfl ?_
  refine im_ci (S := []) (fun _ hv => cpV (fr' := 4) (lo' := 84) (i := 4) (As := []) (S := []) (a := t) (c := 11) rfl lk_M_383 mw_M_definitions mv_M_definitions rfl ⟨by decide, rfl⟩ rfl rfl rfl (gd_some hv).1 (sp_M_definitions G hv)) (fun x1 => ?_)
  refine im_if_ne 5 9 16 rfl (by decide) ?_ ?_
  · refine im_aload_n 8 16 rfl rfl ?_
    refine im_cWi (S := []) (fun _ _ hv => cpV (fr' := 23) (lo' := 535) (i := 9) (As := []) (S := []) (a := t) (c := 11) rfl lk_M_350 mw_M_allDead mv_M_allDead rfl ⟨by decide, rfl⟩ rfl rfl rfl (gd_some hv).1 (sp_M_allDead G hv)) (fun x2 M2 => ?_)
    refine im_i2f 10 20 rfl ?_
    refine im_aload_n 11 21 rfl rfl ?_
    refine im_ci (S := [.float (FP.i2f x2)]) (fun _ hv => cpV (fr' := 4) (lo' := 84) (i := 12) (As := []) (S := [.float (FP.i2f x2)]) (a := t) (c := 11) rfl lk_M_383 mw_M_definitions mv_M_definitions rfl ⟨by decide, rfl⟩ rfl rfl rfl (gd_some hv).1 (sp_M_definitions G hv)) (fun x3 => ?_)
    refine im_i2f 13 25 rfl ?_
    refine im_fdiv 14 26 rfl (fun x4 => ?_)
    exact im_end rfl (wp_freturn 15 27 rfl rfl)
  · refine im_fconst0 6 12 rfl ?_
    refine im_goto 7 13 27 rfl (by decide) ?_
    exact im_end rfl (wp_freturn 15 27 rfl rfl)

theorem sp_M_deadShare (G : gl_T) {t : Nat} {M : mm_T} {y : UInt32 × mm_T} (h : ff_M_deadShare t M = some y) : sp_S mi_M_deadShare 24 557 G [.ref t] M (sw_f y).1 (sw_f y).2 := sp_of mo_M_deadShare mw_M_deadShare (Or.inl (by decide +kernel)) rfl rfl (Or.inl rfl) (ip_M_deadShare G t M y h)

set_option maxRecDepth 100000 in
set_option maxHeartbeats 4000000 in
theorem li_M_meanLive_9 (G : gl_T) (M0 : mm_T) (k0 : Int32 → mm_T → Option (UInt64 × mm_T)) (p0 : Nat) (hk0 : ∀ (z1 : Int32) (N : mm_T), im_I mi_M_meanLive 23 538 G M0 sw_d (k0 z1 N) 37 [some (.ref p0), some (.int z1), none] [] N) : ∀ (fu : Nat) (q1 : Int32) (q2 : Int32) (N : mm_T), im_I mi_M_meanLive 23 538 G M0 sw_d (lf_M_meanLive_9 k0 p0 fu q1 q2 N) 9 [some (.ref p0), some (.int q1), some (.int q2)] [] N := by
  intro fu
  induction fu with
  | zero => intro _ _ _; exact im_none
  | succ fu ih =>
    intro q1 q2 N
    show im_I mi_M_meanLive 23 538 G M0 sw_d (lb_M_meanLive_9 k0 p0 (lf_M_meanLive_9 k0 p0 fu) q1 q2 N) 9 [some (.ref p0), some (.int q1), some (.int q2)] [] N
    unfold lb_M_meanLive_9
    refine im_iload_n 7 9 rfl rfl ?_
    refine im_aload_n 8 10 rfl rfl ?_
    refine im_iconst 9 11 rfl rfl ?_
    refine im_ci (S := [.int q2]) (fun _ hv => cpV (fr' := 1) (lo' := 20) (i := 10) (As := [.int (1 : Int32)]) (S := [.int q2]) (a := p0) (c := 11) rfl lk_M_61 mw_M_get mv_M_get rfl ⟨by decide, rfl⟩ rfl rfl rfl (gd_some hv).1 (sp_M_get G hv)) (fun x1 => ?_)
    refine im_ic_ge 11 15 37 rfl (by decide) ?_ ?_
    · exact im_less _ (by simp [lv_le]) (hk0 q1 N)
    · refine im_iload_n 12 18 rfl rfl ?_
      refine im_aload_n 13 19 rfl rfl ?_
      refine im_aload_n 14 20 rfl rfl ?_
      refine im_iload_n 15 21 rfl rfl ?_
      refine im_ci (S := [.ref p0, .int q1]) (fun _ hv => cpV (fr' := 5) (lo' := 107) (i := 16) (As := [.int q2]) (S := [.ref p0, .int q1]) (a := p0) (c := 11) rfl lk_M_121 mw_M_blockAt mv_M_blockAt rfl ⟨by decide, rfl⟩ rfl rfl rfl (gd_some hv).1 (sp_M_blockAt G hv)) (fun x2 => ?_)
      refine im_iload_n 17 25 rfl rfl ?_
      refine im_cWi (S := [.int q1]) (fun _ _ hv => cpV (fr' := 22) (lo' := 514) (i := 18) (As := [.int x2, .int q2]) (S := [.int q1]) (a := p0) (c := 11) rfl lk_M_344 mw_M_liveAt mv_M_liveAt rfl ⟨by decide, rfl⟩ rfl rfl rfl (gd_some hv).1 (sp_M_liveAt G hv)) (fun x3 M2 => ?_)
      refine im_iadd 19 29 rfl ?_
      refine im_letI (fun x4 => ?_)
      refine im_istore_n 20 30 [some (.ref p0), some (.int x4), some (.int q2)] rfl rfl rfl ?_
      refine im_iincL 21 31 (fun x5 => [some (.ref p0), some (.int x4), some (.int x5)]) rfl rfl rfl rfl (fun _ => rfl) (fun x5 => ?_)
      refine im_goto 22 34 9 rfl (by decide) ?_
      exact im_less _ (by simp [lv_le]) (ih x4 x5 M2)

set_option maxRecDepth 100000 in
set_option maxHeartbeats 4000000 in
theorem ip_M_meanLive (G : gl_T) (t : Nat) (M : mm_T) : im_I mi_M_meanLive 23 538 G M sw_d (ff_M_meanLive t M) 0 [some (.ref t), none, none] [] M := by
  unfold ff_M_meanLive
  refine im_gd (fun hg => ?_)
  refine im_aload_n 0 0 rfl rfl ?_
  refine im_iconst 1 1 rfl rfl ?_
  refine im_putI 2 2 rfl fd_M_55 (Or.inl (by decide +kernel)) (by decide +kernel) (fun M1 => ?_)
  refine im_iconst 3 5 rfl rfl ?_
  refine im_istore_n 4 6 [some (.ref t), some (.int (0 : Int32)), none] rfl rfl rfl ?_
  refine im_iconst 5 7 rfl rfl ?_
  refine im_istore_n 6 8 [some (.ref t), some (.int (0 : Int32)), some (.int (0 : Int32))] rfl rfl rfl ?_
  refine im_less [some (.ref t), some (.int (0 : Int32)), some (.int (0 : Int32))] (by simp [lv_le]) ?_
  refine li_M_meanLive_9 G M _ t ?_ fu_L (0 : Int32) (0 : Int32) M1
  · intro x6 M3
    show im_I mi_M_meanLive 23 538 G M sw_d (_) 37 [some (.ref t), some (.int x6), none] [] M3
    refine im_aload_n 23 37 rfl rfl ?_
    refine im_iconst 24 38 rfl rfl ?_
    refine im_ci (S := []) (fun _ hv => cpV (fr' := 1) (lo' := 20) (i := 25) (As := [.int (1 : Int32)]) (S := []) (a := t) (c := 11) rfl lk_M_61 mw_M_get mv_M_get rfl ⟨by decide, rfl⟩ rfl rfl rfl (gd_some hv).1 (sp_M_get G hv)) (fun x7 => ?_)
    refine im_if_ne 26 42 49 rfl (by decide) ?_ ?_
    · refine im_iload_n 29 49 rfl rfl ?_
      refine im_i2d 30 50 rfl ?_
      refine im_aload_n 31 51 rfl rfl ?_
      refine im_iconst 32 52 rfl rfl ?_
      refine im_ci (S := [.double (FP.i2d x6)]) (fun _ hv => cpV (fr' := 1) (lo' := 20) (i := 33) (As := [.int (1 : Int32)]) (S := [.double (FP.i2d x6)]) (a := t) (c := 11) rfl lk_M_61 mw_M_get mv_M_get rfl ⟨by decide, rfl⟩ rfl rfl rfl (gd_some hv).1 (sp_M_get G hv)) (fun x8 => ?_)
      refine im_i2d 34 56 rfl ?_
      refine im_ddiv 35 57 rfl (fun x9 => ?_)
      exact im_end rfl (wp_dreturn 36 58 rfl rfl)
    · refine im_dconst0 27 45 rfl ?_
      refine im_goto 28 46 58 rfl (by decide) ?_
      exact im_end rfl (wp_dreturn 36 58 rfl rfl)

theorem sp_M_meanLive (G : gl_T) {t : Nat} {M : mm_T} {y : UInt64 × mm_T} (h : ff_M_meanLive t M = some y) : sp_S mi_M_meanLive 23 538 G [.ref t] M (sw_d y).1 (sw_d y).2 := sp_of mo_M_meanLive mw_M_meanLive (Or.inl (by decide +kernel)) rfl rfl (Or.inl rfl) (ip_M_meanLive G t M y h)

set_option maxRecDepth 100000 in
set_option maxHeartbeats 4000000 in
theorem li_M_keeps_11 (G : gl_T) (M0 : mm_T) (k0 : mm_T → Option (mm_T)) (p0 : Nat) (hk0 : ∀ (N : mm_T), im_I mi_M_keeps 2 43 G M0 sw_v (k0 N) 35 [some (.ref p0), none] [] N) : ∀ (fu : Nat) (q1 : Int32) (N : mm_T), im_I mi_M_keeps 2 43 G M0 sw_v (lf_M_keeps_11 k0 p0 fu q1 N) 11 [some (.ref p0), some (.int q1)] [] N := by
  intro fu
  induction fu with
  | zero => intro _ _; exact im_none
  | succ fu ih =>
    intro q1 N
    show im_I mi_M_keeps 2 43 G M0 sw_v (lb_M_keeps_11 k0 p0 (lf_M_keeps_11 k0 p0 fu) q1 N) 11 [some (.ref p0), some (.int q1)] [] N
    unfold lb_M_keeps_11
    refine im_iload_n 6 11 rfl rfl ?_
    refine im_bipush 7 12 rfl rfl ?_
    refine im_ic_ge 8 14 35 rfl (by decide) ?_ ?_
    · exact im_less _ (by simp [lv_le]) (hk0 N)
    · refine im_aload_n 9 17 rfl rfl ?_
      refine im_iconst 10 18 rfl rfl ?_
      refine im_iload_n 11 19 rfl rfl ?_
      refine im_iadd 12 20 rfl ?_
      refine im_iconst 13 21 rfl rfl ?_
      refine im_iload_n 14 22 rfl rfl ?_
      refine im_iadd 15 23 rfl ?_
      refine im_iconst 16 24 rfl rfl ?_
      refine im_isub 17 25 rfl ?_
      refine im_cWv (S := []) (fun _ hv => cpV (fr' := 1) (lo' := 20) (i := 18) (As := [.int ((1 : Int32) + q1), .int (((1 : Int32) + q1) - (1 : Int32))]) (S := []) (a := p0) (c := 11) rfl lk_M_323 mw_M_copies mv_M_copies rfl ⟨by decide, rfl⟩ rfl rfl rfl (gd_some hv).1 (sp_M_copies G hv)) (fun M4 => ?_)
      refine im_iincL 19 29 (fun x4 => [some (.ref p0), some (.int x4)]) rfl rfl rfl rfl (fun _ => rfl) (fun x4 => ?_)
      refine im_goto 20 32 11 rfl (by decide) ?_
      exact im_less _ (by simp [lv_le]) (ih x4 M4)

set_option maxRecDepth 100000 in
set_option maxHeartbeats 4000000 in
theorem ip_M_keeps (G : gl_T) (t : Nat) (M : mm_T) : im_I mi_M_keeps 2 43 G M sw_v (ff_M_keeps t M) 0 [some (.ref t), none] [] M := by
  unfold ff_M_keeps
  refine im_gd (fun hg => ?_)
  refine im_aload_n 0 0 rfl rfl ?_
  refine im_getI 1 1 rfl fd_M_326 (by decide +kernel) (fun x1 => ?_)
  refine im_bipush 2 4 rfl rfl ?_
  refine im_jp (fun j45 => ∀  (M1 : mm_T), im_I mi_M_keeps 2 43 G M sw_v (j45 M1) 45 [some (.ref t), none] [] M1) ?_ (fun j45 hj45 => ?_)
  · intro M1
    show im_I mi_M_keeps 2 43 G M sw_v (_) 45 [some (.ref t), none] [] M1
    refine im_aload_n 27 45 rfl rfl ?_
    refine im_iconst 28 46 rfl rfl ?_
    refine im_iconst 29 47 rfl rfl ?_
    refine im_aload_n 30 48 rfl rfl ?_
    refine im_getI 31 49 rfl fd_M_326 (by decide +kernel) (fun x2 => ?_)
    refine im_iadd 32 52 rfl ?_
    refine im_cWv (S := []) (fun _ hv => cpV (fr' := 1) (lo' := 20) (i := 33) (As := [.int (0 : Int32), .int ((1 : Int32) + x2)]) (S := []) (a := t) (c := 11) rfl lk_M_323 mw_M_copies mv_M_copies rfl ⟨by decide, rfl⟩ rfl rfl rfl (gd_some hv).1 (sp_M_copies G hv)) (fun M2 => ?_)
    refine im_aload_n 34 56 rfl rfl ?_
    refine im_dup 35 57 rfl rfl ?_
    refine im_getI 36 58 rfl fd_M_326 (by decide +kernel) (fun x3 => ?_)
    refine im_iconst 37 61 rfl rfl ?_
    refine im_iadd 38 62 rfl ?_
    refine im_putI 39 63 rfl fd_M_326 (Or.inl (by decide +kernel)) (by decide +kernel) (fun M3 => ?_)
    exact im_end rfl (wp_return 40 66 rfl rfl)
  refine im_ic_ne 3 6 45 rfl (by decide) ?_ ?_
  · exact im_less _ (by simp [lv_le]) (hj45 M)
  · refine im_iconst 4 9 rfl rfl ?_
    refine im_istore_n 5 10 [some (.ref t), some (.int (1 : Int32))] rfl rfl rfl ?_
    refine im_less [some (.ref t), some (.int (1 : Int32))] (by simp [lv_le]) ?_
    refine li_M_keeps_11 G M _ t ?_ fu_L (1 : Int32) M
    · intro M5
      show im_I mi_M_keeps 2 43 G M sw_v (_) 35 [some (.ref t), none] [] M5
      refine im_aload_n 21 35 rfl rfl ?_
      refine im_dup 22 36 rfl rfl ?_
      refine im_getI 23 37 rfl fd_M_326 (by decide +kernel) (fun x5 => ?_)
      refine im_iconst 24 40 rfl rfl ?_
      refine im_isub 25 41 rfl ?_
      refine im_putI 26 42 rfl fd_M_326 (Or.inl (by decide +kernel)) (by decide +kernel) (fun M6 => ?_)
      exact im_less _ (by simp [lv_le]) (hj45 M6)

theorem sp_M_keeps (G : gl_T) {t : Nat} {M : mm_T} {y : mm_T} (h : ff_M_keeps t M = some y) : sp_S mi_M_keeps 2 43 G [.ref t] M (sw_v y).1 (sw_v y).2 := sp_of mo_M_keeps mw_M_keeps (Or.inl (by decide +kernel)) rfl rfl (Or.inl rfl) (ip_M_keeps G t M y h)

set_option maxRecDepth 100000 in
set_option maxHeartbeats 4000000 in
theorem ip_M_canInsert (G : gl_T) (t : Nat) (a1 : Int32) (a2 : Int32) (a3 : Int32) (M : mm_T) : im_I mi_M_canInsert 3 63 G M sw_i (ff_M_canInsert t a1 a2 a3 M) 0 [some (.ref t), some (.int a1), some (.int a2), some (.int a3)] [] M := by
  unfold ff_M_canInsert
  refine im_gd (fun hg => ?_)
  refine im_iload_n 0 0 rfl rfl ?_
  refine im_iconst 1 1 rfl rfl ?_
  refine im_aload_n 2 2 rfl rfl ?_
  refine im_iload_n 3 3 rfl rfl ?_
  refine im_iconst 4 4 rfl rfl ?_
  refine im_ci (S := [.int (0 : Int32), .int a2]) (fun _ hv => cpV (fr' := 2) (lo' := 41) (i := 5) (As := [.int a1, .int (0 : Int32)]) (S := [.int (0 : Int32), .int a2]) (a := t) (c := 11) rfl lk_M_80 mw_M_bl mv_M_bl rfl ⟨by decide, rfl⟩ rfl rfl rfl (gd_some hv).1 (sp_M_bl G hv)) (fun x1 => ?_)
  refine im_ci (S := []) (fun _ hv => cpS (fr' := 1) (lo' := 20) (i := 6) (As := [.int a2, .int (0 : Int32), .int x1]) (S := []) rfl lk_M_124 mw_M_in mv_M_in rfl rfl rfl rfl (sp_M_in G hv)) (fun x2 => ?_)
  refine im_jp (fun j26 => im_I mi_M_canInsert 3 63 G M sw_i (j26) 26 [some (.ref t), none, none, none] [] M) ?_ (fun j26 hj26 => ?_)
  · show im_I mi_M_canInsert 3 63 G M sw_i (_) 26 [some (.ref t), none, none, none] [] M
    refine im_aload_n 15 26 rfl rfl ?_
    refine im_iconst 16 27 rfl rfl ?_
    refine im_putI 17 28 rfl fd_M_55 (Or.inl (by decide +kernel)) (by decide +kernel) (fun M1 => ?_)
    refine im_iconst 18 31 rfl rfl ?_
    exact im_end rfl (wp_zreturn 19 32 (ty := .boolean) rfl (by first | exact nz_0 | exact nz_1) rfl)
  refine im_if_eq 7 11 26 rfl (by decide) ?_ ?_
  · exact im_less _ (by simp [lv_le]) (hj26)
  · refine im_iload_n 8 14 rfl rfl ?_
    refine im_iconst 9 15 rfl rfl ?_
    refine im_bipush 10 16 rfl rfl ?_
    refine im_ci (S := []) (fun _ hv => cpS (fr' := 1) (lo' := 20) (i := 11) (As := [.int a3, .int (0 : Int32), .int (7 : Int32)]) (S := []) rfl lk_M_124 mw_M_in mv_M_in rfl rfl rfl rfl (sp_M_in G hv)) (fun x3 => ?_)
    refine im_if_eq 12 21 26 rfl (by decide) ?_ ?_
    · exact im_less _ (by simp [lv_le]) (hj26)
    · refine im_iconst 13 24 rfl rfl ?_
      exact im_end rfl (wp_zreturn 14 25 (ty := .boolean) rfl (by first | exact nz_0 | exact nz_1) rfl)

theorem sp_M_canInsert (G : gl_T) {t : Nat} {a1 : Int32} {a2 : Int32} {a3 : Int32} {M : mm_T} {y : Int32 × mm_T} (h : ff_M_canInsert t a1 a2 a3 M = some y) : sp_S mi_M_canInsert 3 63 G [.ref t, .int a1, .int a2, .int a3] M (sw_i y).1 (sw_i y).2 := sp_of mo_M_canInsert mw_M_canInsert (Or.inl (by decide +kernel)) rfl rfl (Or.inl rfl) (ip_M_canInsert G t a1 a2 a3 M y h)

set_option maxRecDepth 100000 in
set_option maxHeartbeats 4000000 in
theorem li_M_inserts_47 (G : gl_T) (M0 : mm_T) (k0 : mm_T → Option (Int32 × mm_T)) (p0 : Nat) (p1 : Int32) (p3 : Int32) (p4 : Int32) (p5 : Int32) (p6 : Int32) (p7 : Int32) (p8 : Int32) (p9 : Int32) (hk0 : ∀ (N : mm_T), im_I mi_M_inserts 4 91 G M0 sw_i (k0 N) 77 [some (.ref p0), some (.int p1), none, some (.int p3), some (.int p4), some (.int p5), some (.int p6), some (.int p7), some (.int p8), some (.int p9), none] [] N) : ∀ (fu : Nat) (q10 : Int32) (N : mm_T), im_I mi_M_inserts 4 91 G M0 sw_i (lf_M_inserts_47 k0 p0 p1 p3 p4 p5 p6 p7 p8 p9 fu q10 N) 47 [some (.ref p0), some (.int p1), none, some (.int p3), some (.int p4), some (.int p5), some (.int p6), some (.int p7), some (.int p8), some (.int p9), some (.int q10)] [] N := by
  intro fu
  induction fu with
  | zero => intro _ _; exact im_none
  | succ fu ih =>
    intro q10 N
    show im_I mi_M_inserts 4 91 G M0 sw_i (lb_M_inserts_47 k0 p0 p1 p3 p4 p5 p6 p7 p8 p9 (lf_M_inserts_47 k0 p0 p1 p3 p4 p5 p6 p7 p8 p9 fu) q10 N) 47 [some (.ref p0), some (.int p1), none, some (.int p3), some (.int p4), some (.int p5), some (.int p6), some (.int p7), some (.int p8), some (.int p9), some (.int q10)] [] N
    unfold lb_M_inserts_47
    refine im_iload 27 47 rfl rfl ?_
    refine im_iconst 28 49 rfl rfl ?_
    refine im_ic_ge 29 50 77 rfl (by decide) ?_ ?_
    · exact im_less _ (by simp [lv_le]) (hk0 N)
    · refine im_aload_n 30 53 rfl rfl ?_
      refine im_iload 31 54 rfl rfl ?_
      refine im_iload 32 56 rfl rfl ?_
      refine im_aload_n 33 58 rfl rfl ?_
      refine im_iload 34 59 rfl rfl ?_
      refine im_iconst 35 61 rfl rfl ?_
      refine im_isub 36 62 rfl ?_
      refine im_iload 37 63 rfl rfl ?_
      refine im_ci (S := [.int q10, .int p9, .ref p0]) (fun _ hv => cpV (fr' := 2) (lo' := 41) (i := 38) (As := [.int (p9 - (1 : Int32)), .int q10]) (S := [.int q10, .int p9, .ref p0]) (a := p0) (c := 11) rfl lk_M_96 mw_M_it mv_M_it rfl ⟨by decide, rfl⟩ rfl rfl rfl (gd_some hv).1 (sp_M_it G hv)) (fun x5 => ?_)
      refine im_cWv (S := []) (fun _ hv => cpV (fr' := 2) (lo' := 42) (i := 39) (As := [.int p9, .int q10, .int x5]) (S := []) (a := p0) (c := 11) rfl lk_M_69 mw_M_layItem mv_M_layItem rfl ⟨by decide, rfl⟩ rfl rfl rfl (gd_some hv).1 (sp_M_layItem G hv)) (fun M2 => ?_)
      refine im_iincL 40 71 (fun x6 => [some (.ref p0), some (.int p1), none, some (.int p3), some (.int p4), some (.int p5), some (.int p6), some (.int p7), some (.int p8), some (.int p9), some (.int x6)]) rfl rfl rfl rfl (fun _ => rfl) (fun x6 => ?_)
      refine im_goto 41 74 47 rfl (by decide) ?_
      exact im_less _ (by simp [lv_le]) (ih x6 M2)

set_option maxRecDepth 100000 in
set_option maxHeartbeats 4000000 in
theorem li_M_inserts_37 (G : gl_T) (M0 : mm_T) (k0 : mm_T → Option (Int32 × mm_T)) (p0 : Nat) (p1 : Int32) (p3 : Int32) (p4 : Int32) (p5 : Int32) (p6 : Int32) (p7 : Int32) (p8 : Int32) (hk0 : ∀ (N : mm_T), im_I mi_M_inserts 4 91 G M0 sw_i (k0 N) 83 [some (.ref p0), some (.int p1), none, some (.int p3), some (.int p4), some (.int p5), some (.int p6), some (.int p7), some (.int p8), none, none] [] N) : ∀ (fu : Nat) (q9 : Int32) (N : mm_T), im_I mi_M_inserts 4 91 G M0 sw_i (lf_M_inserts_37 k0 p0 p1 p3 p4 p5 p6 p7 p8 fu q9 N) 37 [some (.ref p0), some (.int p1), none, some (.int p3), some (.int p4), some (.int p5), some (.int p6), some (.int p7), some (.int p8), some (.int q9), none] [] N := by
  intro fu
  induction fu with
  | zero => intro _ _; exact im_none
  | succ fu ih =>
    intro q9 N
    show im_I mi_M_inserts 4 91 G M0 sw_i (lb_M_inserts_37 k0 p0 p1 p3 p4 p5 p6 p7 p8 (lf_M_inserts_37 k0 p0 p1 p3 p4 p5 p6 p7 p8 fu) q9 N) 37 [some (.ref p0), some (.int p1), none, some (.int p3), some (.int p4), some (.int p5), some (.int p6), some (.int p7), some (.int p8), some (.int q9), none] [] N
    unfold lb_M_inserts_37
    refine im_iload 22 37 rfl rfl ?_
    refine im_iload 23 39 rfl rfl ?_
    refine im_ic_le 24 41 83 rfl (by decide) ?_ ?_
    · exact im_less _ (by simp [lv_le]) (hk0 N)
    · refine im_iconst 25 44 rfl rfl ?_
      refine im_istore 26 45 [some (.ref p0), some (.int p1), none, some (.int p3), some (.int p4), some (.int p5), some (.int p6), some (.int p7), some (.int p8), some (.int q9), some (.int (0 : Int32))] rfl rfl rfl ?_
      refine im_less [some (.ref p0), some (.int p1), none, some (.int p3), some (.int p4), some (.int p5), some (.int p6), some (.int p7), some (.int p8), some (.int q9), some (.int (0 : Int32))] (by simp [lv_le]) ?_
      refine li_M_inserts_47 G M0 _ p0 p1 p3 p4 p5 p6 p7 p8 q9 ?_ fu_L (0 : Int32) N
      · intro M3
        show im_I mi_M_inserts 4 91 G M0 sw_i (_) 77 [some (.ref p0), some (.int p1), none, some (.int p3), some (.int p4), some (.int p5), some (.int p6), some (.int p7), some (.int p8), some (.int q9), none] [] M3
        refine im_iincL 42 77 (fun x7 => [some (.ref p0), some (.int p1), none, some (.int p3), some (.int p4), some (.int p5), some (.int p6), some (.int p7), some (.int p8), some (.int x7), none]) rfl rfl rfl rfl (fun _ => rfl) (fun x7 => ?_)
        refine im_goto 43 80 37 rfl (by decide) ?_
        exact im_less _ (by simp [lv_le]) (ih x7 M3)

set_option maxRecDepth 100000 in
set_option maxHeartbeats 4000000 in
theorem ip_M_inserts (G : gl_T) (t : Nat) (a1 : Int32) (a2 : Int32) (a3 : Int32) (a4 : Int32) (a5 : Int32) (a6 : Int32) (a7 : Int32) (M : mm_T) : im_I mi_M_inserts 4 91 G M sw_i (ff_M_inserts t a1 a2 a3 a4 a5 a6 a7 M) 0 [some (.ref t), some (.int a1), some (.int a2), some (.int a3), some (.int a4), some (.int a5), some (.int a6), some (.int a7), none, none, none] [] M := by
  unfold ff_M_inserts
  refine im_gd (fun hg => ?_)
  refine im_aload_n 0 0 rfl rfl ?_
  refine im_iconst 1 1 rfl rfl ?_
  refine im_ci (S := []) (fun _ hv => cpV (fr' := 1) (lo' := 20) (i := 2) (As := [.int (1 : Int32)]) (S := []) (a := t) (c := 11) rfl lk_M_61 mw_M_get mv_M_get rfl ⟨by decide, rfl⟩ rfl rfl rfl (gd_some hv).1 (sp_M_get G hv)) (fun x1 => ?_)
  refine im_bipush 3 5 rfl rfl ?_
  refine im_ic_ne 4 7 17 rfl (by decide) ?_ ?_
  · refine im_aload_n 10 17 rfl rfl ?_
    refine im_cWv (S := []) (fun _ hv => cpV (fr' := 2) (lo' := 43) (i := 11) (As := []) (S := []) (a := t) (c := 11) rfl lk_M_386 mw_M_keeps mv_M_keeps rfl ⟨by decide, rfl⟩ rfl rfl rfl (gd_some hv).1 (sp_M_keeps G hv)) (fun M1 => ?_)
    refine im_aload_n 12 21 rfl rfl ?_
    refine im_iload_n 13 22 rfl rfl ?_
    refine im_ci (S := []) (fun _ hv => cpV (fr' := 3) (lo' := 63) (i := 14) (As := [.int a1]) (S := []) (a := t) (c := 11) rfl lk_M_84 mw_M_firstOf mv_M_firstOf rfl ⟨by decide, rfl⟩ rfl rfl rfl (gd_some hv).1 (sp_M_firstOf G hv)) (fun x2 => ?_)
    refine im_iload_n 15 26 rfl rfl ?_
    refine im_iadd 16 27 rfl ?_
    refine im_letI (fun x3 => ?_)
    refine im_istore 17 28 [some (.ref t), some (.int a1), some (.int a2), some (.int a3), some (.int a4), some (.int a5), some (.int a6), some (.int a7), some (.int x3), none, none] rfl rfl rfl ?_
    refine im_aload_n 18 30 rfl rfl ?_
    refine im_iconst 19 31 rfl rfl ?_
    refine im_ci (S := []) (fun _ hv => cpV (fr' := 1) (lo' := 20) (i := 20) (As := [.int (1 : Int32)]) (S := []) (a := t) (c := 11) rfl lk_M_61 mw_M_get mv_M_get rfl ⟨by decide, rfl⟩ rfl rfl rfl (gd_some hv).1 (sp_M_get G hv)) (fun x4 => ?_)
    refine im_istore 21 35 [some (.ref t), some (.int a1), some (.int a2), some (.int a3), some (.int a4), some (.int a5), some (.int a6), some (.int a7), some (.int x3), some (.int x4), none] rfl rfl rfl ?_
    refine im_less [some (.ref t), some (.int a1), none, some (.int a3), some (.int a4), some (.int a5), some (.int a6), some (.int a7), some (.int x3), some (.int x4), none] (by simp [lv_le]) ?_
    refine li_M_inserts_37 G M _ t a1 a3 a4 a5 a6 a7 x3 ?_ fu_L x4 M1
    · intro M4
      show im_I mi_M_inserts 4 91 G M sw_i (_) 83 [some (.ref t), some (.int a1), none, some (.int a3), some (.int a4), some (.int a5), some (.int a6), some (.int a7), some (.int x3), none, none] [] M4
      refine im_aload_n 44 83 rfl rfl ?_
      refine im_iload 45 84 rfl rfl ?_
      refine im_iload_n 46 86 rfl rfl ?_
      refine im_iload 47 87 rfl rfl ?_
      refine im_iload 48 89 rfl rfl ?_
      refine im_iload 49 91 rfl rfl ?_
      refine im_iload 50 93 rfl rfl ?_
      refine im_cWv (S := []) (fun _ hv => cpV (fr' := 3) (lo' := 65) (i := 51) (As := [.int x3, .int a3, .int a4, .int a5, .int a6, .int a7]) (S := []) (a := t) (c := 11) rfl lk_M_76 mw_M_writes mv_M_writes rfl ⟨by decide, rfl⟩ rfl rfl rfl (gd_some hv).1 (sp_M_writes G hv)) (fun M5 => ?_)
      refine im_aload_n 52 98 rfl rfl ?_
      refine im_iload_n 53 99 rfl rfl ?_
      refine im_iconst 54 100 rfl rfl ?_
      refine im_aload_n 55 101 rfl rfl ?_
      refine im_iload_n 56 102 rfl rfl ?_
      refine im_iconst 57 103 rfl rfl ?_
      refine im_ci (S := [.int (0 : Int32), .int a1, .ref t]) (fun _ hv => cpV (fr' := 2) (lo' := 41) (i := 58) (As := [.int a1, .int (0 : Int32)]) (S := [.int (0 : Int32), .int a1, .ref t]) (a := t) (c := 11) rfl lk_M_80 mw_M_bl mv_M_bl rfl ⟨by decide, rfl⟩ rfl rfl rfl (gd_some hv).1 (sp_M_bl G hv)) (fun x8 => ?_)
      refine im_iconst 59 107 rfl rfl ?_
      refine im_iadd 60 108 rfl ?_
      refine im_cWv (S := []) (fun _ hv => cpV (fr' := 2) (lo' := 42) (i := 61) (As := [.int a1, .int (0 : Int32), .int (x8 + (1 : Int32))]) (S := []) (a := t) (c := 11) rfl lk_M_73 mw_M_layBlock mv_M_layBlock rfl ⟨by decide, rfl⟩ rfl rfl rfl (gd_some hv).1 (sp_M_layBlock G hv)) (fun M6 => ?_)
      refine im_aload_n 62 112 rfl rfl ?_
      refine im_iconst 63 113 rfl rfl ?_
      refine im_aload_n 64 114 rfl rfl ?_
      refine im_iconst 65 115 rfl rfl ?_
      refine im_ci (S := [.int (1 : Int32), .ref t]) (fun _ hv => cpV (fr' := 1) (lo' := 20) (i := 66) (As := [.int (1 : Int32)]) (S := [.int (1 : Int32), .ref t]) (a := t) (c := 11) rfl lk_M_61 mw_M_get mv_M_get rfl ⟨by decide, rfl⟩ rfl rfl rfl (gd_some hv).1 (sp_M_get G hv)) (fun x9 => ?_)
      refine im_iconst 67 119 rfl rfl ?_
      refine im_iadd 68 120 rfl ?_
      refine im_cWv (S := []) (fun _ hv => cpV (fr' := 1) (lo' := 20) (i := 69) (As := [.int (1 : Int32), .int (x9 + (1 : Int32))]) (S := []) (a := t) (c := 11) rfl lk_M_65 mw_M_lay mv_M_lay rfl ⟨by decide, rfl⟩ rfl rfl rfl (gd_some hv).1 (sp_M_lay G hv)) (fun M7 => ?_)
      refine im_iload 70 124 rfl rfl ?_
      exact im_end rfl (wp_ireturn 71 126 rfl rfl)
  · refine im_aload_n 5 10 rfl rfl ?_
    refine im_iconst 6 11 rfl rfl ?_
    refine im_putI 7 12 rfl fd_M_55 (Or.inl (by decide +kernel)) (by decide +kernel) (fun M8 => ?_)
    refine im_iconst 8 15 rfl rfl ?_
    exact im_end rfl (wp_ireturn 9 16 rfl rfl)

theorem sp_M_inserts (G : gl_T) {t : Nat} {a1 : Int32} {a2 : Int32} {a3 : Int32} {a4 : Int32} {a5 : Int32} {a6 : Int32} {a7 : Int32} {M : mm_T} {y : Int32 × mm_T} (h : ff_M_inserts t a1 a2 a3 a4 a5 a6 a7 M = some y) : sp_S mi_M_inserts 4 91 G [.ref t, .int a1, .int a2, .int a3, .int a4, .int a5, .int a6, .int a7] M (sw_i y).1 (sw_i y).2 := sp_of mo_M_inserts mw_M_inserts (Or.inl (by decide +kernel)) rfl rfl (Or.inl rfl) (ip_M_inserts G t a1 a2 a3 a4 a5 a6 a7 M y h)

set_option maxRecDepth 100000 in
set_option maxHeartbeats 4000000 in
theorem ip_M_insertSet (G : gl_T) (t : Nat) (a1 : Int32) (a2 : Int32) (a3 : Int32) (a4 : Int32) (M : mm_T) : im_I mi_M_insertSet 5 121 G M sw_i (ff_M_insertSet t a1 a2 a3 a4 M) 0 [some (.ref t), some (.int a1), some (.int a2), some (.int a3), some (.int a4)] [] M := by
  unfold ff_M_insertSet
  refine im_gd (fun hg => ?_)
  refine im_aload_n 0 0 rfl rfl ?_
  refine im_iload_n 1 1 rfl rfl ?_
  refine im_cWi (S := []) (fun _ _ hv => cpV (fr' := 2) (lo' := 42) (i := 2) (As := [.int a1]) (S := []) (a := t) (c := 11) rfl lk_M_329 mw_M_isBlock mv_M_isBlock rfl ⟨by decide, rfl⟩ rfl rfl rfl (gd_some hv).1 (sp_M_isBlock G hv)) (fun x1 M1 => ?_)
  refine im_if_eq 3 5 18 rfl (by decide) ?_ ?_
  · refine im_iconst 10 18 rfl rfl ?_
    exact im_end rfl (wp_ireturn 11 19 rfl rfl)
  · refine im_aload_n 4 8 rfl rfl ?_
    refine im_iload_n 5 9 rfl rfl ?_
    refine im_iload_n 6 10 rfl rfl ?_
    refine im_iload_n 7 11 rfl rfl ?_
    refine im_cWi (S := []) (fun _ _ hv => cpV (fr' := 3) (lo' := 63) (i := 8) (As := [.int a1, .int a2, .int a3]) (S := []) (a := t) (c := 11) rfl lk_M_389 mw_M_canInsert mv_M_canInsert rfl ⟨by decide, rfl⟩ rfl rfl rfl (gd_some hv).1 (sp_M_canInsert G hv)) (fun x2 M2 => ?_)
    refine im_if_ne 9 15 20 rfl (by decide) ?_ ?_
    · refine im_iload 12 20 rfl rfl ?_
      refine im_jp (fun j33 => im_I mi_M_insertSet 5 121 G M sw_i (j33) 33 [some (.ref t), none, none, none, none] [] M2) ?_ (fun j33 hj33 => ?_)
      · show im_I mi_M_insertSet 5 121 G M sw_i (_) 33 [some (.ref t), none, none, none, none] [] M2
        refine im_aload_n 17 33 rfl rfl ?_
        refine im_iconst 18 34 rfl rfl ?_
        refine im_putI 19 35 rfl fd_M_55 (Or.inl (by decide +kernel)) (by decide +kernel) (fun M3 => ?_)
        refine im_iconst 20 38 rfl rfl ?_
        exact im_end rfl (wp_ireturn 21 39 rfl rfl)
      refine im_if_lt 13 22 33 rfl (by decide) ?_ ?_
      · exact im_less _ (by simp [lv_le]) (hj33)
      · refine im_iload 14 25 rfl rfl ?_
        refine im_sipush 15 27 rfl rfl ?_
        refine im_ic_le 16 30 40 rfl (by decide) ?_ ?_
        · refine im_aload_n 22 40 rfl rfl ?_
          refine im_iload_n 23 41 rfl rfl ?_
          refine im_iload_n 24 42 rfl rfl ?_
          refine im_iconst 25 43 rfl rfl ?_
          refine im_iload_n 26 44 rfl rfl ?_
          refine im_iload 27 45 rfl rfl ?_
          refine im_iconst 28 47 rfl rfl ?_
          refine im_iconst 29 48 rfl rfl ?_
          refine im_cWi (S := []) (fun _ _ hv => cpV (fr' := 4) (lo' := 91) (i := 30) (As := [.int a1, .int a2, .int (0 : Int32), .int a3, .int a4, .int (0 : Int32), .int (0 : Int32)]) (S := []) (a := t) (c := 11) rfl lk_M_392 mw_M_inserts mv_M_inserts rfl ⟨by decide, rfl⟩ rfl rfl rfl (gd_some hv).1 (sp_M_inserts G hv)) (fun x3 M4 => ?_)
          exact im_end rfl (wp_ireturn 31 52 rfl rfl)
        · exact im_less _ (by simp [lv_le]) (hj33)
    · refine im_iconst 10 18 rfl rfl ?_
      exact im_end rfl (wp_ireturn 11 19 rfl rfl)

theorem sp_M_insertSet (G : gl_T) {t : Nat} {a1 : Int32} {a2 : Int32} {a3 : Int32} {a4 : Int32} {M : mm_T} {y : Int32 × mm_T} (h : ff_M_insertSet t a1 a2 a3 a4 M = some y) : sp_S mi_M_insertSet 5 121 G [.ref t, .int a1, .int a2, .int a3, .int a4] M (sw_i y).1 (sw_i y).2 := sp_of mo_M_insertSet mw_M_insertSet (Or.inl (by decide +kernel)) rfl rfl (Or.inl rfl) (ip_M_insertSet G t a1 a2 a3 a4 M y h)

set_option maxRecDepth 100000 in
set_option maxHeartbeats 4000000 in
theorem ip_M_insertCalc (G : gl_T) (t : Nat) (a1 : Int32) (a2 : Int32) (a3 : Int32) (a4 : Int32) (a5 : Int32) (a6 : Int32) (M : mm_T) : im_I mi_M_insertCalc 5 121 G M sw_i (ff_M_insertCalc t a1 a2 a3 a4 a5 a6 M) 0 [some (.ref t), some (.int a1), some (.int a2), some (.int a3), some (.int a4), some (.int a5), some (.int a6)] [] M := by
  unfold ff_M_insertCalc
  refine im_gd (fun hg => ?_)
  refine im_aload_n 0 0 rfl rfl ?_
  refine im_iload_n 1 1 rfl rfl ?_
  refine im_cWi (S := []) (fun _ _ hv => cpV (fr' := 2) (lo' := 42) (i := 2) (As := [.int a1]) (S := []) (a := t) (c := 11) rfl lk_M_329 mw_M_isBlock mv_M_isBlock rfl ⟨by decide, rfl⟩ rfl rfl rfl (gd_some hv).1 (sp_M_isBlock G hv)) (fun x1 M1 => ?_)
  refine im_if_eq 3 5 18 rfl (by decide) ?_ ?_
  · refine im_iconst 10 18 rfl rfl ?_
    exact im_end rfl (wp_ireturn 11 19 rfl rfl)
  · refine im_aload_n 4 8 rfl rfl ?_
    refine im_iload_n 5 9 rfl rfl ?_
    refine im_iload_n 6 10 rfl rfl ?_
    refine im_iload_n 7 11 rfl rfl ?_
    refine im_cWi (S := []) (fun _ _ hv => cpV (fr' := 3) (lo' := 63) (i := 8) (As := [.int a1, .int a2, .int a3]) (S := []) (a := t) (c := 11) rfl lk_M_389 mw_M_canInsert mv_M_canInsert rfl ⟨by decide, rfl⟩ rfl rfl rfl (gd_some hv).1 (sp_M_canInsert G hv)) (fun x2 M2 => ?_)
    refine im_if_ne 9 15 20 rfl (by decide) ?_ ?_
    · refine im_iload 12 20 rfl rfl ?_
      refine im_iconst 13 22 rfl rfl ?_
      refine im_bipush 14 23 rfl rfl ?_
      refine im_ci (S := []) (fun _ hv => cpS (fr' := 1) (lo' := 20) (i := 15) (As := [.int a4, .int (0 : Int32), .int (7 : Int32)]) (S := []) rfl lk_M_124 mw_M_in mv_M_in rfl rfl rfl rfl (sp_M_in G hv)) (fun x3 => ?_)
      refine im_jp (fun j52 => im_I mi_M_insertCalc 5 121 G M sw_i (j52) 52 [some (.ref t), none, none, none, none, none, none] [] M2) ?_ (fun j52 hj52 => ?_)
      · show im_I mi_M_insertCalc 5 121 G M sw_i (_) 52 [some (.ref t), none, none, none, none, none, none] [] M2
        refine im_aload_n 27 52 rfl rfl ?_
        refine im_iconst 28 53 rfl rfl ?_
        refine im_putI 29 54 rfl fd_M_55 (Or.inl (by decide +kernel)) (by decide +kernel) (fun M3 => ?_)
        refine im_iconst 30 57 rfl rfl ?_
        exact im_end rfl (wp_ireturn 31 58 rfl rfl)
      refine im_if_eq 16 28 52 rfl (by decide) ?_ ?_
      · exact im_less _ (by simp [lv_le]) (hj52)
      · refine im_iload 17 31 rfl rfl ?_
        refine im_iconst 18 33 rfl rfl ?_
        refine im_iconst 19 34 rfl rfl ?_
        refine im_ci (S := []) (fun _ hv => cpS (fr' := 1) (lo' := 20) (i := 20) (As := [.int a5, .int (0 : Int32), .int (2 : Int32)]) (S := []) rfl lk_M_124 mw_M_in mv_M_in rfl rfl rfl rfl (sp_M_in G hv)) (fun x4 => ?_)
        refine im_if_eq 21 38 52 rfl (by decide) ?_ ?_
        · exact im_less _ (by simp [lv_le]) (hj52)
        · refine im_iload 22 41 rfl rfl ?_
          refine im_iconst 23 43 rfl rfl ?_
          refine im_bipush 24 44 rfl rfl ?_
          refine im_ci (S := []) (fun _ hv => cpS (fr' := 1) (lo' := 20) (i := 25) (As := [.int a6, .int (0 : Int32), .int (7 : Int32)]) (S := []) rfl lk_M_124 mw_M_in mv_M_in rfl rfl rfl rfl (sp_M_in G hv)) (fun x5 => ?_)
          refine im_if_ne 26 49 59 rfl (by decide) ?_ ?_
          · refine im_aload_n 32 59 rfl rfl ?_
            refine im_iload_n 33 60 rfl rfl ?_
            refine im_iload_n 34 61 rfl rfl ?_
            refine im_iconst 35 62 rfl rfl ?_
            refine im_iload_n 36 63 rfl rfl ?_
            refine im_iload 37 64 rfl rfl ?_
            refine im_iload 38 66 rfl rfl ?_
            refine im_iload 39 68 rfl rfl ?_
            refine im_cWi (S := []) (fun _ _ hv => cpV (fr' := 4) (lo' := 91) (i := 40) (As := [.int a1, .int a2, .int (2 : Int32), .int a3, .int a4, .int a5, .int a6]) (S := []) (a := t) (c := 11) rfl lk_M_392 mw_M_inserts mv_M_inserts rfl ⟨by decide, rfl⟩ rfl rfl rfl (gd_some hv).1 (sp_M_inserts G hv)) (fun x6 M4 => ?_)
            exact im_end rfl (wp_ireturn 41 73 rfl rfl)
          · exact im_less _ (by simp [lv_le]) (hj52)
    · refine im_iconst 10 18 rfl rfl ?_
      exact im_end rfl (wp_ireturn 11 19 rfl rfl)

theorem sp_M_insertCalc (G : gl_T) {t : Nat} {a1 : Int32} {a2 : Int32} {a3 : Int32} {a4 : Int32} {a5 : Int32} {a6 : Int32} {M : mm_T} {y : Int32 × mm_T} (h : ff_M_insertCalc t a1 a2 a3 a4 a5 a6 M = some y) : sp_S mi_M_insertCalc 5 121 G [.ref t, .int a1, .int a2, .int a3, .int a4, .int a5, .int a6] M (sw_i y).1 (sw_i y).2 := sp_of mo_M_insertCalc mw_M_insertCalc (Or.inl (by decide +kernel)) rfl rfl (Or.inl rfl) (ip_M_insertCalc G t a1 a2 a3 a4 a5 a6 M y h)

set_option maxRecDepth 100000 in
set_option maxHeartbeats 4000000 in
theorem li_M_removes_46 (G : gl_T) (M0 : mm_T) (k0 : mm_T → Option (mm_T)) (p0 : Nat) (p3 : Int32) (hk0 : ∀ (N : mm_T), im_I mi_M_removes 6 129 G M0 sw_v (k0 N) 74 [some (.ref p0), none, none, some (.int p3), none] [] N) : ∀ (fu : Nat) (q4 : Int32) (N : mm_T), im_I mi_M_removes 6 129 G M0 sw_v (lf_M_removes_46 k0 p0 p3 fu q4 N) 46 [some (.ref p0), none, none, some (.int p3), some (.int q4)] [] N := by
  intro fu
  induction fu with
  | zero => intro _ _; exact im_none
  | succ fu ih =>
    intro q4 N
    show im_I mi_M_removes 6 129 G M0 sw_v (lb_M_removes_46 k0 p0 p3 (lf_M_removes_46 k0 p0 p3 fu) q4 N) 46 [some (.ref p0), none, none, some (.int p3), some (.int q4)] [] N
    unfold lb_M_removes_46
    refine im_iload 31 46 rfl rfl ?_
    refine im_iconst 32 48 rfl rfl ?_
    refine im_ic_ge 33 49 74 rfl (by decide) ?_ ?_
    · exact im_less _ (by simp [lv_le]) (hk0 N)
    · refine im_aload_n 34 52 rfl rfl ?_
      refine im_iload_n 35 53 rfl rfl ?_
      refine im_iload 36 54 rfl rfl ?_
      refine im_aload_n 37 56 rfl rfl ?_
      refine im_iload_n 38 57 rfl rfl ?_
      refine im_iconst 39 58 rfl rfl ?_
      refine im_iadd 40 59 rfl ?_
      refine im_iload 41 60 rfl rfl ?_
      refine im_ci (S := [.int q4, .int p3, .ref p0]) (fun _ hv => cpV (fr' := 2) (lo' := 41) (i := 42) (As := [.int (p3 + (1 : Int32)), .int q4]) (S := [.int q4, .int p3, .ref p0]) (a := p0) (c := 11) rfl lk_M_96 mw_M_it mv_M_it rfl ⟨by decide, rfl⟩ rfl rfl rfl (gd_some hv).1 (sp_M_it G hv)) (fun x5 => ?_)
      refine im_cWv (S := []) (fun _ hv => cpV (fr' := 2) (lo' := 42) (i := 43) (As := [.int p3, .int q4, .int x5]) (S := []) (a := p0) (c := 11) rfl lk_M_69 mw_M_layItem mv_M_layItem rfl ⟨by decide, rfl⟩ rfl rfl rfl (gd_some hv).1 (sp_M_layItem G hv)) (fun M3 => ?_)
      refine im_iincL 44 68 (fun x6 => [some (.ref p0), none, none, some (.int p3), some (.int x6)]) rfl rfl rfl rfl (fun _ => rfl) (fun x6 => ?_)
      refine im_goto 45 71 46 rfl (by decide) ?_
      exact im_less _ (by simp [lv_le]) (ih x6 M3)

set_option maxRecDepth 100000 in
set_option maxHeartbeats 4000000 in
theorem li_M_removes_34 (G : gl_T) (M0 : mm_T) (p0 : Nat) : ∀ (fu : Nat) (q3 : Int32) (N : mm_T), im_I mi_M_removes 6 129 G M0 sw_v (lf_M_removes_34 p0 fu q3 N) 34 [some (.ref p0), none, none, some (.int q3), none] [] N := by
  intro fu
  induction fu with
  | zero => intro _ _; exact im_none
  | succ fu ih =>
    intro q3 N
    show im_I mi_M_removes 6 129 G M0 sw_v (lb_M_removes_34 p0 (lf_M_removes_34 p0 fu) q3 N) 34 [some (.ref p0), none, none, some (.int q3), none] [] N
    unfold lb_M_removes_34
    refine im_iload_n 24 34 rfl rfl ?_
    refine im_aload_n 25 35 rfl rfl ?_
    refine im_iconst 26 36 rfl rfl ?_
    refine im_ci (S := [.int q3]) (fun _ hv => cpV (fr' := 1) (lo' := 20) (i := 27) (As := [.int (1 : Int32)]) (S := [.int q3]) (a := p0) (c := 11) rfl lk_M_61 mw_M_get mv_M_get rfl ⟨by decide, rfl⟩ rfl rfl rfl (gd_some hv).1 (sp_M_get G hv)) (fun x4 => ?_)
    refine im_ic_ge 28 40 80 rfl (by decide) ?_ ?_
    · exact im_end rfl (wp_return 48 80 rfl rfl)
    · refine im_iconst 29 43 rfl rfl ?_
      refine im_istore 30 44 [some (.ref p0), none, none, some (.int q3), some (.int (0 : Int32))] rfl rfl rfl ?_
      refine im_less [some (.ref p0), none, none, some (.int q3), some (.int (0 : Int32))] (by simp [lv_le]) ?_
      refine li_M_removes_46 G M0 _ p0 q3 ?_ fu_L (0 : Int32) N
      · intro M4
        show im_I mi_M_removes 6 129 G M0 sw_v (_) 74 [some (.ref p0), none, none, some (.int q3), none] [] M4
        refine im_iincL 46 74 (fun x7 => [some (.ref p0), none, none, some (.int x7), none]) rfl rfl rfl rfl (fun _ => rfl) (fun x7 => ?_)
        refine im_goto 47 77 34 rfl (by decide) ?_
        exact im_less _ (by simp [lv_le]) (ih x7 M4)

set_option maxRecDepth 100000 in
set_option maxHeartbeats 4000000 in
theorem ip_M_removes (G : gl_T) (t : Nat) (a1 : Int32) (M : mm_T) : im_I mi_M_removes 6 129 G M sw_v (ff_M_removes t a1 M) 0 [some (.ref t), some (.int a1), none, none, none] [] M := by
  unfold ff_M_removes
  refine im_gd (fun hg => ?_)
  refine im_aload_n 0 0 rfl rfl ?_
  refine im_iload_n 1 1 rfl rfl ?_
  refine im_ci (S := []) (fun _ hv => cpV (fr' := 5) (lo' := 107) (i := 2) (As := [.int a1]) (S := []) (a := t) (c := 11) rfl lk_M_121 mw_M_blockAt mv_M_blockAt rfl ⟨by decide, rfl⟩ rfl rfl rfl (gd_some hv).1 (sp_M_blockAt G hv)) (fun x1 => ?_)
  refine im_istore_n 3 5 [some (.ref t), some (.int a1), some (.int x1), none, none] rfl rfl rfl ?_
  refine im_aload_n 4 6 rfl rfl ?_
  refine im_iload_n 5 7 rfl rfl ?_
  refine im_iconst 6 8 rfl rfl ?_
  refine im_aload_n 7 9 rfl rfl ?_
  refine im_iload_n 8 10 rfl rfl ?_
  refine im_iconst 9 11 rfl rfl ?_
  refine im_ci (S := [.int (0 : Int32), .int x1, .ref t]) (fun _ hv => cpV (fr' := 2) (lo' := 41) (i := 10) (As := [.int x1, .int (0 : Int32)]) (S := [.int (0 : Int32), .int x1, .ref t]) (a := t) (c := 11) rfl lk_M_80 mw_M_bl mv_M_bl rfl ⟨by decide, rfl⟩ rfl rfl rfl (gd_some hv).1 (sp_M_bl G hv)) (fun x2 => ?_)
  refine im_iconst 11 15 rfl rfl ?_
  refine im_isub 12 16 rfl ?_
  refine im_cWv (S := []) (fun _ hv => cpV (fr' := 2) (lo' := 42) (i := 13) (As := [.int x1, .int (0 : Int32), .int (x2 - (1 : Int32))]) (S := []) (a := t) (c := 11) rfl lk_M_73 mw_M_layBlock mv_M_layBlock rfl ⟨by decide, rfl⟩ rfl rfl rfl (gd_some hv).1 (sp_M_layBlock G hv)) (fun M1 => ?_)
  refine im_aload_n 14 20 rfl rfl ?_
  refine im_iconst 15 21 rfl rfl ?_
  refine im_aload_n 16 22 rfl rfl ?_
  refine im_iconst 17 23 rfl rfl ?_
  refine im_ci (S := [.int (1 : Int32), .ref t]) (fun _ hv => cpV (fr' := 1) (lo' := 20) (i := 18) (As := [.int (1 : Int32)]) (S := [.int (1 : Int32), .ref t]) (a := t) (c := 11) rfl lk_M_61 mw_M_get mv_M_get rfl ⟨by decide, rfl⟩ rfl rfl rfl (gd_some hv).1 (sp_M_get G hv)) (fun x3 => ?_)
  refine im_iconst 19 27 rfl rfl ?_
  refine im_isub 20 28 rfl ?_
  refine im_cWv (S := []) (fun _ hv => cpV (fr' := 1) (lo' := 20) (i := 21) (As := [.int (1 : Int32), .int (x3 - (1 : Int32))]) (S := []) (a := t) (c := 11) rfl lk_M_65 mw_M_lay mv_M_lay rfl ⟨by decide, rfl⟩ rfl rfl rfl (gd_some hv).1 (sp_M_lay G hv)) (fun M2 => ?_)
  refine im_iload_n 22 32 rfl rfl ?_
  refine im_istore_n 23 33 [some (.ref t), some (.int a1), some (.int x1), some (.int a1), none] rfl rfl rfl ?_
  refine im_less [some (.ref t), none, none, some (.int a1), none] (by simp [lv_le]) ?_
  exact li_M_removes_34 G M t fu_L a1 M2

theorem sp_M_removes (G : gl_T) {t : Nat} {a1 : Int32} {M : mm_T} {y : mm_T} (h : ff_M_removes t a1 M = some y) : sp_S mi_M_removes 6 129 G [.ref t, .int a1] M (sw_v y).1 (sw_v y).2 := sp_of mo_M_removes mw_M_removes (Or.inl (by decide +kernel)) rfl rfl (Or.inl rfl) (ip_M_removes G t a1 M y h)

