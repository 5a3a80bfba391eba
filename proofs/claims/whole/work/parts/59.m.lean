set_option maxRecDepth 100000 in
set_option maxHeartbeats 4000000 in
theorem ip_M_init (G : gl_T) (t : Nat) (M : mm_T) : im_I mi_M_init 5 117 G M sw_v (ff_M_init t M) 0 [some (.ref t)] [] M := by
  unfold ff_M_init
  refine im_gd (fun hg => ?_)
  refine im_aload_n 0 0 rfl rfl ?_
  refine im_objInit 1 1 ob_M_1 rfl (gd_in hg (by decide)) rfl rfl rfl ?_
  refine im_aload_n 2 4 rfl rfl ?_
  refine im_sipush 3 5 rfl rfl ?_
  refine im_newI 4 8 rfl (tb_m 218 (by decide +kernel) rfl) (fun x1 M1 => ?_)
  refine im_putR 5 10 rfl fd_M_7 (Or.inr ⟨rfl, rfl⟩) (by decide +kernel) (fun M2 => ?_)
  refine im_aload_n 6 13 rfl rfl ?_
  refine im_iconst 7 14 rfl rfl ?_
  refine im_newZ 8 15 rfl (tb_m 1909 (by decide +kernel) rfl) (fun x2 M3 => ?_)
  refine im_putR 9 17 rfl fd_M_13 (Or.inr ⟨rfl, rfl⟩) (by decide +kernel) (fun M4 => ?_)
  refine im_aload_n 10 20 rfl rfl ?_
  refine im_bipush 11 21 rfl rfl ?_
  refine im_newZ 12 23 rfl (tb_m 1909 (by decide +kernel) rfl) (fun x3 M5 => ?_)
  refine im_putR 13 25 rfl fd_M_17 (Or.inr ⟨rfl, rfl⟩) (by decide +kernel) (fun M6 => ?_)
  refine im_aload_n 14 28 rfl rfl ?_
  refine im_bipush 15 29 rfl rfl ?_
  refine im_newZ 16 31 rfl (tb_m 1909 (by decide +kernel) rfl) (fun x4 M7 => ?_)
  refine im_putR 17 33 rfl fd_M_20 (Or.inr ⟨rfl, rfl⟩) (by decide +kernel) (fun M8 => ?_)
  refine im_aload_n 18 36 rfl rfl ?_
  refine im_bipush 19 37 rfl rfl ?_
  refine im_newI 20 39 rfl (tb_m 218 (by decide +kernel) rfl) (fun x5 M9 => ?_)
  refine im_putR 21 41 rfl fd_M_23 (Or.inr ⟨rfl, rfl⟩) (by decide +kernel) (fun M10 => ?_)
  refine im_aload_n 22 44 rfl rfl ?_
  refine im_bipush 23 45 rfl rfl ?_
  refine im_newI 24 47 rfl (tb_m 218 (by decide +kernel) rfl) (fun x6 M11 => ?_)
  refine im_putR 25 49 rfl fd_M_26 (Or.inr ⟨rfl, rfl⟩) (by decide +kernel) (fun M12 => ?_)
  refine im_aload_n 26 52 rfl rfl ?_
  refine im_bipush 27 53 rfl rfl ?_
  refine im_newI 28 55 rfl (tb_m 218 (by decide +kernel) rfl) (fun x7 M13 => ?_)
  refine im_putR 29 57 rfl fd_M_29 (Or.inr ⟨rfl, rfl⟩) (by decide +kernel) (fun M14 => ?_)
  refine im_aload_n 30 60 rfl rfl ?_
  refine im_sipush 31 61 rfl rfl ?_
  refine im_newI 32 64 rfl (tb_m 218 (by decide +kernel) rfl) (fun x8 M15 => ?_)
  refine im_putR 33 66 rfl fd_M_32 (Or.inr ⟨rfl, rfl⟩) (by decide +kernel) (fun M16 => ?_)
  refine im_aload_n 34 69 rfl rfl ?_
  refine im_iconst 35 70 rfl rfl ?_
  refine im_putI 36 71 rfl fd_M_35 (Or.inr ⟨rfl, rfl⟩) (by decide +kernel) (fun M17 => ?_)
  refine im_aload_n 37 74 rfl rfl ?_
  refine im_bipush 38 75 rfl rfl ?_
  refine im_newI 39 77 rfl (tb_m 218 (by decide +kernel) rfl) (fun x9 M18 => ?_)
  refine im_putR 40 79 rfl fd_M_39 (Or.inr ⟨rfl, rfl⟩) (by decide +kernel) (fun M19 => ?_)
  refine im_aload_n 41 82 rfl rfl ?_
  refine im_sipush 42 83 rfl rfl ?_
  refine im_newI 43 86 rfl (tb_m 218 (by decide +kernel) rfl) (fun x10 M20 => ?_)
  refine im_putR 44 88 rfl fd_M_42 (Or.inr ⟨rfl, rfl⟩) (by decide +kernel) (fun M21 => ?_)
  refine im_aload_n 45 91 rfl rfl ?_
  refine im_cWv (S := []) (fun _ hv => cpV (fr' := 3) (lo' := 65) (i := 46) (As := []) (S := []) (a := t) (c := 11) rfl lk_M_45 mw_M_newBlock mv_M_newBlock rfl ⟨by decide, rfl⟩ rfl rfl rfl (gd_some hv).1 (sp_M_newBlock G hv)) (fun M22 => ?_)
  refine im_aload_n 47 95 rfl rfl ?_
  refine im_iconst 48 96 rfl rfl ?_
  refine im_iconst 49 97 rfl rfl ?_
  refine im_iconst 50 98 rfl rfl ?_
  refine im_iconst 51 99 rfl rfl ?_
  refine im_iconst 52 100 rfl rfl ?_
  refine im_cWv (S := []) (fun _ hv => cpV (fr' := 4) (lo' := 91) (i := 53) (As := [.int (0 : Int32), .int (0 : Int32), .int (5 : Int32), .int (0 : Int32), .int (0 : Int32)]) (S := []) (a := t) (c := 11) rfl lk_M_48 mw_M_newItem mv_M_newItem rfl ⟨by decide, rfl⟩ rfl rfl rfl (gd_some hv).1 (sp_M_newItem G hv)) (fun M23 => ?_)
  refine im_aload_n 54 104 rfl rfl ?_
  refine im_iconst 55 105 rfl rfl ?_
  refine im_iconst 56 106 rfl rfl ?_
  refine im_iconst 57 107 rfl rfl ?_
  refine im_iconst 58 108 rfl rfl ?_
  refine im_iconst 59 109 rfl rfl ?_
  refine im_cWv (S := []) (fun _ hv => cpV (fr' := 4) (lo' := 91) (i := 60) (As := [.int (0 : Int32), .int (1 : Int32), .int (1 : Int32), .int (0 : Int32), .int (0 : Int32)]) (S := []) (a := t) (c := 11) rfl lk_M_48 mw_M_newItem mv_M_newItem rfl ⟨by decide, rfl⟩ rfl rfl rfl (gd_some hv).1 (sp_M_newItem G hv)) (fun M24 => ?_)
  refine im_aload_n 61 113 rfl rfl ?_
  refine im_iconst 62 114 rfl rfl ?_
  refine im_iconst 63 115 rfl rfl ?_
  refine im_bipush 64 116 rfl rfl ?_
  refine im_iconst 65 118 rfl rfl ?_
  refine im_iconst 66 119 rfl rfl ?_
  refine im_cWv (S := []) (fun _ hv => cpV (fr' := 4) (lo' := 91) (i := 67) (As := [.int (0 : Int32), .int (3 : Int32), .int (7 : Int32), .int (0 : Int32), .int (0 : Int32)]) (S := []) (a := t) (c := 11) rfl lk_M_48 mw_M_newItem mv_M_newItem rfl ⟨by decide, rfl⟩ rfl rfl rfl (gd_some hv).1 (sp_M_newItem G hv)) (fun M25 => ?_)
  refine im_aload_n 68 123 rfl rfl ?_
  refine im_iconst 69 124 rfl rfl ?_
  refine im_iconst 70 125 rfl rfl ?_
  refine im_iconst 71 126 rfl rfl ?_
  refine im_iconst 72 127 rfl rfl ?_
  refine im_iconst 73 128 rfl rfl ?_
  refine im_cWv (S := []) (fun _ hv => cpV (fr' := 3) (lo' := 65) (i := 74) (As := [.int (0 : Int32), .int (1 : Int32), .int (0 : Int32), .int (1 : Int32), .int (0 : Int32)]) (S := []) (a := t) (c := 11) rfl lk_M_52 mw_M_exits mv_M_exits rfl ⟨by decide, rfl⟩ rfl rfl rfl (gd_some hv).1 (sp_M_exits G hv)) (fun M26 => ?_)
  refine im_aload_n 75 132 rfl rfl ?_
  refine im_cWv (S := []) (fun _ hv => cpV (fr' := 3) (lo' := 65) (i := 76) (As := []) (S := []) (a := t) (c := 11) rfl lk_M_45 mw_M_newBlock mv_M_newBlock rfl ⟨by decide, rfl⟩ rfl rfl rfl (gd_some hv).1 (sp_M_newBlock G hv)) (fun M27 => ?_)
  refine im_aload_n 77 136 rfl rfl ?_
  refine im_iconst 78 137 rfl rfl ?_
  refine im_iconst 79 138 rfl rfl ?_
  refine im_iconst 80 139 rfl rfl ?_
  refine im_iconst 81 140 rfl rfl ?_
  refine im_iconst 82 141 rfl rfl ?_
  refine im_cWv (S := []) (fun _ hv => cpV (fr' := 4) (lo' := 91) (i := 83) (As := [.int (2 : Int32), .int (2 : Int32), .int (0 : Int32), .int (0 : Int32), .int (1 : Int32)]) (S := []) (a := t) (c := 11) rfl lk_M_48 mw_M_newItem mv_M_newItem rfl ⟨by decide, rfl⟩ rfl rfl rfl (gd_some hv).1 (sp_M_newItem G hv)) (fun M28 => ?_)
  refine im_aload_n 84 145 rfl rfl ?_
  refine im_iconst 85 146 rfl rfl ?_
  refine im_iconst 86 147 rfl rfl ?_
  refine im_iconst 87 148 rfl rfl ?_
  refine im_iconst 88 149 rfl rfl ?_
  refine im_iconst 89 150 rfl rfl ?_
  refine im_cWv (S := []) (fun _ hv => cpV (fr' := 3) (lo' := 65) (i := 90) (As := [.int (1 : Int32), .int (2 : Int32), .int (0 : Int32), .int (2 : Int32), .int (3 : Int32)]) (S := []) (a := t) (c := 11) rfl lk_M_52 mw_M_exits mv_M_exits rfl ⟨by decide, rfl⟩ rfl rfl rfl (gd_some hv).1 (sp_M_exits G hv)) (fun M29 => ?_)
  refine im_aload_n 91 154 rfl rfl ?_
  refine im_cWv (S := []) (fun _ hv => cpV (fr' := 3) (lo' := 65) (i := 92) (As := []) (S := []) (a := t) (c := 11) rfl lk_M_45 mw_M_newBlock mv_M_newBlock rfl ⟨by decide, rfl⟩ rfl rfl rfl (gd_some hv).1 (sp_M_newBlock G hv)) (fun M30 => ?_)
  refine im_aload_n 93 158 rfl rfl ?_
  refine im_iconst 94 159 rfl rfl ?_
  refine im_iconst 95 160 rfl rfl ?_
  refine im_iconst 96 161 rfl rfl ?_
  refine im_iconst 97 162 rfl rfl ?_
  refine im_iconst 98 163 rfl rfl ?_
  refine im_cWv (S := []) (fun _ hv => cpV (fr' := 4) (lo' := 91) (i := 99) (As := [.int (2 : Int32), .int (0 : Int32), .int (0 : Int32), .int (1 : Int32), .int (1 : Int32)]) (S := []) (a := t) (c := 11) rfl lk_M_48 mw_M_newItem mv_M_newItem rfl ⟨by decide, rfl⟩ rfl rfl rfl (gd_some hv).1 (sp_M_newItem G hv)) (fun M31 => ?_)
  refine im_aload_n 100 167 rfl rfl ?_
  refine im_iconst 101 168 rfl rfl ?_
  refine im_iconst 102 169 rfl rfl ?_
  refine im_iconst 103 170 rfl rfl ?_
  refine im_iconst 104 171 rfl rfl ?_
  refine im_iconst 105 172 rfl rfl ?_
  refine im_cWv (S := []) (fun _ hv => cpV (fr' := 4) (lo' := 91) (i := 106) (As := [.int (2 : Int32), .int (4 : Int32), .int (0 : Int32), .int (0 : Int32), .int (1 : Int32)]) (S := []) (a := t) (c := 11) rfl lk_M_48 mw_M_newItem mv_M_newItem rfl ⟨by decide, rfl⟩ rfl rfl rfl (gd_some hv).1 (sp_M_newItem G hv)) (fun M32 => ?_)
  refine im_aload_n 107 176 rfl rfl ?_
  refine im_iconst 108 177 rfl rfl ?_
  refine im_iconst 109 178 rfl rfl ?_
  refine im_iconst 110 179 rfl rfl ?_
  refine im_iconst 111 180 rfl rfl ?_
  refine im_iconst 112 181 rfl rfl ?_
  refine im_cWv (S := []) (fun _ hv => cpV (fr' := 3) (lo' := 65) (i := 113) (As := [.int (2 : Int32), .int (1 : Int32), .int (0 : Int32), .int (1 : Int32), .int (0 : Int32)]) (S := []) (a := t) (c := 11) rfl lk_M_52 mw_M_exits mv_M_exits rfl ⟨by decide, rfl⟩ rfl rfl rfl (gd_some hv).1 (sp_M_exits G hv)) (fun M33 => ?_)
  refine im_aload_n 114 185 rfl rfl ?_
  refine im_cWv (S := []) (fun _ hv => cpV (fr' := 3) (lo' := 65) (i := 115) (As := []) (S := []) (a := t) (c := 11) rfl lk_M_45 mw_M_newBlock mv_M_newBlock rfl ⟨by decide, rfl⟩ rfl rfl rfl (gd_some hv).1 (sp_M_newBlock G hv)) (fun M34 => ?_)
  refine im_aload_n 116 189 rfl rfl ?_
  refine im_iconst 117 190 rfl rfl ?_
  refine im_iconst 118 191 rfl rfl ?_
  refine im_iconst 119 192 rfl rfl ?_
  refine im_iconst 120 193 rfl rfl ?_
  refine im_iconst 121 194 rfl rfl ?_
  refine im_cWv (S := []) (fun _ hv => cpV (fr' := 4) (lo' := 91) (i := 122) (As := [.int (3 : Int32), .int (0 : Int32), .int (2 : Int32), .int (0 : Int32), .int (0 : Int32)]) (S := []) (a := t) (c := 11) rfl lk_M_48 mw_M_newItem mv_M_newItem rfl ⟨by decide, rfl⟩ rfl rfl rfl (gd_some hv).1 (sp_M_newItem G hv)) (fun M35 => ?_)
  refine im_aload_n 123 198 rfl rfl ?_
  refine im_iconst 124 199 rfl rfl ?_
  refine im_iconst 125 200 rfl rfl ?_
  refine im_iconst 126 201 rfl rfl ?_
  refine im_iconst 127 202 rfl rfl ?_
  refine im_iconst 128 203 rfl rfl ?_
  refine im_cWv (S := []) (fun _ hv => cpV (fr' := 4) (lo' := 91) (i := 129) (As := [.int (1 : Int32), .int (5 : Int32), .int (3 : Int32), .int (0 : Int32), .int (0 : Int32)]) (S := []) (a := t) (c := 11) rfl lk_M_48 mw_M_newItem mv_M_newItem rfl ⟨by decide, rfl⟩ rfl rfl rfl (gd_some hv).1 (sp_M_newItem G hv)) (fun M36 => ?_)
  refine im_aload_n 130 207 rfl rfl ?_
  refine im_iconst 131 208 rfl rfl ?_
  refine im_iconst 132 209 rfl rfl ?_
  refine im_iconst 133 210 rfl rfl ?_
  refine im_iconst 134 211 rfl rfl ?_
  refine im_iconst 135 212 rfl rfl ?_
  refine im_cWv (S := []) (fun _ hv => cpV (fr' := 3) (lo' := 65) (i := 136) (As := [.int (3 : Int32), .int (0 : Int32), .int (0 : Int32), .int (0 : Int32), .int (0 : Int32)]) (S := []) (a := t) (c := 11) rfl lk_M_52 mw_M_exits mv_M_exits rfl ⟨by decide, rfl⟩ rfl rfl rfl (gd_some hv).1 (sp_M_exits G hv)) (fun M37 => ?_)
  exact im_end rfl (wp_return 137 216 rfl rfl)

theorem sp_M_init (G : gl_T) {t : Nat} {M : mm_T} {y : mm_T} (h : ff_M_init t M = some y) : sp_S mi_M_init 5 117 G [.ref t] M (sw_v y).1 (sw_v y).2 := sp_of mo_M_init mw_M_init (Or.inl (by decide +kernel)) rfl rfl (Or.inl rfl) (ip_M_init G t M y h)

set_option maxRecDepth 100000 in
set_option maxHeartbeats 4000000 in
theorem ip_M_thrown (G : gl_T) (t : Nat) (M : mm_T) : im_I mi_M_thrown 1 20 G M (sh_i M) (ff_M_thrown t M) 0 [some (.ref t)] [] M := by
  unfold ff_M_thrown
  refine im_gd (fun hg => ?_)
  refine im_aload_n 0 0 rfl rfl ?_
  refine im_getI 1 1 rfl fd_M_55 (by decide +kernel) (fun x1 => ?_)
  exact im_end rfl (wp_ireturn 2 4 rfl rfl)

theorem sp_M_thrown (G : gl_T) {t : Nat} {M : mm_T} {y : Int32} (h : ff_M_thrown t M = some y) : sp_S mi_M_thrown 1 20 G [.ref t] M ((sh_i M) y).1 ((sh_i M) y).2 := sp_of mo_M_thrown mw_M_thrown (Or.inl (by decide +kernel)) rfl rfl (Or.inl rfl) (ip_M_thrown G t M y h)

set_option maxRecDepth 100000 in
set_option maxHeartbeats 4000000 in
theorem li_M_copies_2 (G : gl_T) (M0 : mm_T) (p0 : Nat) (p1 : Int32) (p2 : Int32) : ∀ (fu : Nat) (q3 : Int32) (N : mm_T), im_I mi_M_copies 1 20 G M0 sw_v (lf_M_copies_2 p0 p1 p2 fu q3 N) 2 [some (.ref p0), some (.int p1), some (.int p2), some (.int q3)] [] N := by
  intro fu
  induction fu with
  | zero => intro _ _; exact im_none
  | succ fu ih =>
    intro q3 N
    show im_I mi_M_copies 1 20 G M0 sw_v (lb_M_copies_2 p0 p1 p2 (lf_M_copies_2 p0 p1 p2 fu) q3 N) 2 [some (.ref p0), some (.int p1), some (.int p2), some (.int q3)] [] N
    unfold lb_M_copies_2
    refine im_iload_n 2 2 rfl rfl ?_
    refine im_sipush 3 3 rfl rfl ?_
    refine im_ic_ge 4 6 39 rfl (by decide) ?_ ?_
    · exact im_end rfl (wp_return 23 39 rfl rfl)
    · refine im_aload_n 5 9 rfl rfl ?_
      refine im_getR 6 10 rfl fd_M_7 (by decide +kernel) (fun x1 => ?_)
      refine im_sipush 7 13 rfl rfl ?_
      refine im_iload_n 8 16 rfl rfl ?_
      refine im_imul 9 17 rfl ?_
      refine im_iload_n 10 18 rfl rfl ?_
      refine im_iadd 11 19 rfl ?_
      refine im_aload_n 12 20 rfl rfl ?_
      refine im_getR 13 21 rfl fd_M_7 (by decide +kernel) (fun x2 => ?_)
      refine im_sipush 14 24 rfl rfl ?_
      refine im_iload_n 15 27 rfl rfl ?_
      refine im_imul 16 28 rfl ?_
      refine im_iload_n 17 29 rfl rfl ?_
      refine im_iadd 18 30 rfl ?_
      refine im_iaload 19 31 rfl (fun x3 => ?_)
      refine im_iastore 20 32 rfl (fun M1 => ?_)
      refine im_iincL 21 33 (fun x4 => [some (.ref p0), some (.int p1), some (.int p2), some (.int x4)]) rfl rfl rfl rfl (fun _ => rfl) (fun x4 => ?_)
      refine im_goto 22 36 2 rfl (by decide) ?_
      exact im_less _ (by simp [lv_le]) (ih x4 M1)

set_option maxRecDepth 100000 in
set_option maxHeartbeats 4000000 in
theorem ip_M_copies (G : gl_T) (t : Nat) (a1 : Int32) (a2 : Int32) (M : mm_T) : im_I mi_M_copies 1 20 G M sw_v (ff_M_copies t a1 a2 M) 0 [some (.ref t), some (.int a1), some (.int a2), none] [] M := by
  unfold ff_M_copies
  refine im_gd (fun hg => ?_)
  refine im_iconst 0 0 rfl rfl ?_
  refine im_istore_n 1 1 [some (.ref t), some (.int a1), some (.int a2), some (.int (0 : Int32))] rfl rfl rfl ?_
  refine im_less [some (.ref t), some (.int a1), some (.int a2), some (.int (0 : Int32))] (by simp [lv_le]) ?_
  exact li_M_copies_2 G M t a1 a2 fu_L (0 : Int32) M

theorem sp_M_copies (G : gl_T) {t : Nat} {a1 : Int32} {a2 : Int32} {M : mm_T} {y : mm_T} (h : ff_M_copies t a1 a2 M = some y) : sp_S mi_M_copies 1 20 G [.ref t, .int a1, .int a2] M (sw_v y).1 (sw_v y).2 := sp_of mo_M_copies mw_M_copies (Or.inl (by decide +kernel)) rfl rfl (Or.inl rfl) (ip_M_copies G t a1 a2 M y h)

set_option maxRecDepth 100000 in
set_option maxHeartbeats 4000000 in
theorem ip_M_in (G : gl_T) (a1 : Int32) (a2 : Int32) (a3 : Int32) (M : mm_T) : im_I mi_M_in 1 20 G M (sh_i M) (ff_M_in a1 a2 a3 M) 0 [some (.int a1), some (.int a2), some (.int a3)] [] M := by
  unfold ff_M_in
  refine im_iload_n 0 0 rfl rfl ?_
  refine im_iload_n 1 1 rfl rfl ?_
  refine im_ic_lt 2 2 14 rfl (by decide) ?_ ?_
  · refine im_iconst 8 14 rfl rfl ?_
    exact im_end rfl (wp_zreturn 9 15 (ty := .boolean) rfl (by first | exact nz_0 | exact nz_1) rfl)
  · refine im_iload_n 3 5 rfl rfl ?_
    refine im_iload_n 4 6 rfl rfl ?_
    refine im_ic_gt 5 7 14 rfl (by decide) ?_ ?_
    · refine im_iconst 8 14 rfl rfl ?_
      exact im_end rfl (wp_zreturn 9 15 (ty := .boolean) rfl (by first | exact nz_0 | exact nz_1) rfl)
    · refine im_iconst 6 10 rfl rfl ?_
      refine im_goto 7 11 15 rfl (by decide) ?_
      exact im_end rfl (wp_zreturn 9 15 (ty := .boolean) rfl (by first | exact nz_0 | exact nz_1) rfl)

theorem sp_M_in (G : gl_T) {a1 : Int32} {a2 : Int32} {a3 : Int32} {M : mm_T} {y : Int32} (h : ff_M_in a1 a2 a3 M = some y) : sp_S mi_M_in 1 20 G [.int a1, .int a2, .int a3] M ((sh_i M) y).1 ((sh_i M) y).2 := sp_of mo_M_in mw_M_in (Or.inl (by decide +kernel)) rfl rfl (Or.inl rfl) (ip_M_in G a1 a2 a3 M y h)

set_option maxRecDepth 100000 in
set_option maxHeartbeats 4000000 in
theorem ip_M_one (G : gl_T) (a1 : Int32) (M : mm_T) : im_I mi_M_one 1 20 G M (sh_i M) (ff_M_one a1 M) 0 [some (.int a1)] [] M := by
  unfold ff_M_one
  refine im_iload_n 0 0 rfl rfl ?_
  refine im_if_eq 1 1 8 rfl (by decide) ?_ ?_
  · refine im_iconst 4 8 rfl rfl ?_
    exact im_end rfl (wp_ireturn 5 9 rfl rfl)
  · refine im_iconst 2 4 rfl rfl ?_
    refine im_goto 3 5 9 rfl (by decide) ?_
    exact im_end rfl (wp_ireturn 5 9 rfl rfl)

theorem sp_M_one (G : gl_T) {a1 : Int32} {M : mm_T} {y : Int32} (h : ff_M_one a1 M = some y) : sp_S mi_M_one 1 20 G [.int a1] M ((sh_i M) y).1 ((sh_i M) y).2 := sp_of mo_M_one mw_M_one (Or.inl (by decide +kernel)) rfl rfl (Or.inl rfl) (ip_M_one G a1 M y h)

set_option maxRecDepth 100000 in
set_option maxHeartbeats 4000000 in
theorem ip_M_it (G : gl_T) (t : Nat) (a1 : Int32) (a2 : Int32) (M : mm_T) : im_I mi_M_it 2 41 G M (sh_i M) (ff_M_it t a1 a2 M) 0 [some (.ref t), some (.int a1), some (.int a2)] [] M := by
  unfold ff_M_it
  refine im_gd (fun hg => ?_)
  refine im_aload_n 0 0 rfl rfl ?_
  refine im_bipush 1 1 rfl rfl ?_
  refine im_iconst 2 3 rfl rfl ?_
  refine im_iload_n 3 4 rfl rfl ?_
  refine im_imul 4 5 rfl ?_
  refine im_iadd 5 6 rfl ?_
  refine im_iload_n 6 7 rfl rfl ?_
  refine im_iadd 7 8 rfl ?_
  refine im_ci (S := []) (fun _ hv => cpV (fr' := 1) (lo' := 20) (i := 8) (As := [.int (((62 : Int32) + ((5 : Int32) * a1)) + a2)]) (S := []) (a := t) (c := 11) rfl lk_M_61 mw_M_get mv_M_get rfl ⟨by decide, rfl⟩ rfl rfl rfl (gd_some hv).1 (sp_M_get G hv)) (fun x1 => ?_)
  exact im_end rfl (wp_ireturn 9 12 rfl rfl)

theorem sp_M_it (G : gl_T) {t : Nat} {a1 : Int32} {a2 : Int32} {M : mm_T} {y : Int32} (h : ff_M_it t a1 a2 M = some y) : sp_S mi_M_it 2 41 G [.ref t, .int a1, .int a2] M ((sh_i M) y).1 ((sh_i M) y).2 := sp_of mo_M_it mw_M_it (Or.inl (by decide +kernel)) rfl rfl (Or.inl rfl) (ip_M_it G t a1 a2 M y h)

set_option maxRecDepth 100000 in
set_option maxHeartbeats 4000000 in
theorem li_M_firstOf_4 (G : gl_T) (p0 : Nat) (p1 : Int32) (M : mm_T) : ∀ (fu : Nat) (q2 : Int32) (q3 : Int32), im_I mi_M_firstOf 3 63 G M (sh_i M) (lf_M_firstOf_4 p0 p1 M fu q2 q3) 4 [some (.ref p0), some (.int p1), some (.int q2), some (.int q3)] [] M := by
  intro fu
  induction fu with
  | zero => intro _ _; exact im_none
  | succ fu ih =>
    intro q2 q3
    show im_I mi_M_firstOf 3 63 G M (sh_i M) (lb_M_firstOf_4 p0 p1 M (lf_M_firstOf_4 p0 p1 M fu) q2 q3) 4 [some (.ref p0), some (.int p1), some (.int q2), some (.int q3)] [] M
    unfold lb_M_firstOf_4
    refine im_iload_n 4 4 rfl rfl ?_
    refine im_iload_n 5 5 rfl rfl ?_
    refine im_ic_ge 6 6 24 rfl (by decide) ?_ ?_
    · refine im_iload_n 16 24 rfl rfl ?_
      exact im_end rfl (wp_ireturn 17 25 rfl rfl)
    · refine im_iload_n 7 9 rfl rfl ?_
      refine im_aload_n 8 10 rfl rfl ?_
      refine im_iload_n 9 11 rfl rfl ?_
      refine im_iconst 10 12 rfl rfl ?_
      refine im_ci (S := [.int q2]) (fun _ hv => cpV (fr' := 2) (lo' := 41) (i := 11) (As := [.int q3, .int (0 : Int32)]) (S := [.int q2]) (a := p0) (c := 11) rfl lk_M_80 mw_M_bl mv_M_bl rfl ⟨by decide, rfl⟩ rfl rfl rfl (gd_some hv).1 (sp_M_bl G hv)) (fun x1 => ?_)
      refine im_iadd 12 16 rfl ?_
      refine im_letI (fun x2 => ?_)
      refine im_istore_n 13 17 [some (.ref p0), some (.int p1), some (.int x2), some (.int q3)] rfl rfl rfl ?_
      refine im_iincL 14 18 (fun x3 => [some (.ref p0), some (.int p1), some (.int x2), some (.int x3)]) rfl rfl rfl rfl (fun _ => rfl) (fun x3 => ?_)
      refine im_goto 15 21 4 rfl (by decide) ?_
      exact im_less _ (by simp [lv_le]) (ih x2 x3)

set_option maxRecDepth 100000 in
set_option maxHeartbeats 4000000 in
theorem ip_M_firstOf (G : gl_T) (t : Nat) (a1 : Int32) (M : mm_T) : im_I mi_M_firstOf 3 63 G M (sh_i M) (ff_M_firstOf t a1 M) 0 [some (.ref t), some (.int a1), none, none] [] M := by
  unfold ff_M_firstOf
  refine im_gd (fun hg => ?_)
  refine im_iconst 0 0 rfl rfl ?_
  refine im_istore_n 1 1 [some (.ref t), some (.int a1), some (.int (0 : Int32)), none] rfl rfl rfl ?_
  refine im_iconst 2 2 rfl rfl ?_
  refine im_istore_n 3 3 [some (.ref t), some (.int a1), some (.int (0 : Int32)), some (.int (0 : Int32))] rfl rfl rfl ?_
  refine im_less [some (.ref t), some (.int a1), some (.int (0 : Int32)), some (.int (0 : Int32))] (by simp [lv_le]) ?_
  exact li_M_firstOf_4 G t a1 M fu_L (0 : Int32) (0 : Int32)

theorem sp_M_firstOf (G : gl_T) {t : Nat} {a1 : Int32} {M : mm_T} {y : Int32} (h : ff_M_firstOf t a1 M = some y) : sp_S mi_M_firstOf 3 63 G [.ref t, .int a1] M ((sh_i M) y).1 ((sh_i M) y).2 := sp_of mo_M_firstOf mw_M_firstOf (Or.inl (by decide +kernel)) rfl rfl (Or.inl rfl) (ip_M_firstOf G t a1 M y h)

set_option maxRecDepth 100000 in
set_option maxHeartbeats 4000000 in
theorem ip_M_endOf (G : gl_T) (t : Nat) (a1 : Int32) (M : mm_T) : im_I mi_M_endOf 4 86 G M (sh_i M) (ff_M_endOf t a1 M) 0 [some (.ref t), some (.int a1)] [] M := by
  unfold ff_M_endOf
  refine im_gd (fun hg => ?_)
  refine im_aload_n 0 0 rfl rfl ?_
  refine im_iload_n 1 1 rfl rfl ?_
  refine im_ci (S := []) (fun _ hv => cpV (fr' := 3) (lo' := 63) (i := 2) (As := [.int a1]) (S := []) (a := t) (c := 11) rfl lk_M_84 mw_M_firstOf mv_M_firstOf rfl ⟨by decide, rfl⟩ rfl rfl rfl (gd_some hv).1 (sp_M_firstOf G hv)) (fun x1 => ?_)
  refine im_aload_n 3 5 rfl rfl ?_
  refine im_iload_n 4 6 rfl rfl ?_
  refine im_iconst 5 7 rfl rfl ?_
  refine im_ci (S := [.int x1]) (fun _ hv => cpV (fr' := 2) (lo' := 41) (i := 6) (As := [.int a1, .int (0 : Int32)]) (S := [.int x1]) (a := t) (c := 11) rfl lk_M_80 mw_M_bl mv_M_bl rfl ⟨by decide, rfl⟩ rfl rfl rfl (gd_some hv).1 (sp_M_bl G hv)) (fun x2 => ?_)
  refine im_iadd 7 11 rfl ?_
  exact im_end rfl (wp_ireturn 8 12 rfl rfl)

theorem sp_M_endOf (G : gl_T) {t : Nat} {a1 : Int32} {M : mm_T} {y : Int32} (h : ff_M_endOf t a1 M = some y) : sp_S mi_M_endOf 4 86 G [.ref t, .int a1] M ((sh_i M) y).1 ((sh_i M) y).2 := sp_of mo_M_endOf mw_M_endOf (Or.inl (by decide +kernel)) rfl rfl (Or.inl rfl) (ip_M_endOf G t a1 M y h)

set_option maxRecDepth 100000 in
set_option maxHeartbeats 4000000 in
theorem li_M_blockAt_2 (G : gl_T) (p0 : Nat) (p1 : Int32) (M : mm_T) : ∀ (fu : Nat) (q2 : Int32), im_I mi_M_blockAt 5 107 G M (sh_i M) (lf_M_blockAt_2 p0 p1 M fu q2) 2 [some (.ref p0), some (.int p1), some (.int q2)] [] M := by
  intro fu
  induction fu with
  | zero => intro _; exact im_none
  | succ fu ih =>
    intro q2
    show im_I mi_M_blockAt 5 107 G M (sh_i M) (lb_M_blockAt_2 p0 p1 M (lf_M_blockAt_2 p0 p1 M fu) q2) 2 [some (.ref p0), some (.int p1), some (.int q2)] [] M
    unfold lb_M_blockAt_2
    refine im_aload_n 2 2 rfl rfl ?_
    refine im_iload_n 3 3 rfl rfl ?_
    refine im_ci (S := []) (fun _ hv => cpV (fr' := 4) (lo' := 86) (i := 4) (As := [.int q2]) (S := []) (a := p0) (c := 11) rfl lk_M_87 mw_M_endOf mv_M_endOf rfl ⟨by decide, rfl⟩ rfl rfl rfl (gd_some hv).1 (sp_M_endOf G hv)) (fun x1 => ?_)
    refine im_iload_n 5 7 rfl rfl ?_
    refine im_ic_gt 6 8 17 rfl (by decide) ?_ ?_
    · refine im_iload_n 9 17 rfl rfl ?_
      exact im_end rfl (wp_ireturn 10 18 rfl rfl)
    · refine im_iincL 7 11 (fun x2 => [some (.ref p0), some (.int p1), some (.int x2)]) rfl rfl rfl rfl (fun _ => rfl) (fun x2 => ?_)
      refine im_goto 8 14 2 rfl (by decide) ?_
      exact im_less _ (by simp [lv_le]) (ih x2)

set_option maxRecDepth 100000 in
set_option maxHeartbeats 4000000 in
theorem ip_M_blockAt (G : gl_T) (t : Nat) (a1 : Int32) (M : mm_T) : im_I mi_M_blockAt 5 107 G M (sh_i M) (ff_M_blockAt t a1 M) 0 [some (.ref t), some (.int a1), none] [] M := by
  unfold ff_M_blockAt
  refine im_gd (fun hg => ?_)
  refine im_iconst 0 0 rfl rfl ?_
  refine im_istore_n 1 1 [some (.ref t), some (.int a1), some (.int (0 : Int32))] rfl rfl rfl ?_
  refine im_less [some (.ref t), some (.int a1), some (.int (0 : Int32))] (by simp [lv_le]) ?_
  exact li_M_blockAt_2 G t a1 M fu_L (0 : Int32)

theorem sp_M_blockAt (G : gl_T) {t : Nat} {a1 : Int32} {M : mm_T} {y : Int32} (h : ff_M_blockAt t a1 M = some y) : sp_S mi_M_blockAt 5 107 G [.ref t, .int a1] M ((sh_i M) y).1 ((sh_i M) y).2 := sp_of mo_M_blockAt mw_M_blockAt (Or.inl (by decide +kernel)) rfl rfl (Or.inl rfl) (ip_M_blockAt G t a1 M y h)

set_option maxRecDepth 100000 in
set_option maxHeartbeats 4000000 in
theorem ip_M_ways (G : gl_T) (t : Nat) (a1 : Int32) (M : mm_T) : im_I mi_M_ways 3 63 G M (sh_i M) (ff_M_ways t a1 M) 0 [some (.ref t), some (.int a1)] [] M := by
  unfold ff_M_ways
  refine im_gd (fun hg => ?_)
  refine im_aload_n 0 0 rfl rfl ?_
  refine im_iload_n 1 1 rfl rfl ?_
  refine im_iconst 2 2 rfl rfl ?_
  refine im_ci (S := []) (fun _ hv => cpV (fr' := 2) (lo' := 41) (i := 3) (As := [.int a1, .int (1 : Int32)]) (S := []) (a := t) (c := 11) rfl lk_M_80 mw_M_bl mv_M_bl rfl ⟨by decide, rfl⟩ rfl rfl rfl (gd_some hv).1 (sp_M_bl G hv)) (fun x1 => ?_)
  exact im_end rfl (wp_ireturn 4 6 rfl rfl)

theorem sp_M_ways (G : gl_T) {t : Nat} {a1 : Int32} {M : mm_T} {y : Int32} (h : ff_M_ways t a1 M = some y) : sp_S mi_M_ways 3 63 G [.ref t, .int a1] M ((sh_i M) y).1 ((sh_i M) y).2 := sp_of mo_M_ways mw_M_ways (Or.inl (by decide +kernel)) rfl rfl (Or.inl rfl) (ip_M_ways G t a1 M y h)

set_option maxRecDepth 100000 in
set_option maxHeartbeats 4000000 in
theorem ip_M_way (G : gl_T) (t : Nat) (a1 : Int32) (a2 : Int32) (M : mm_T) : im_I mi_M_way 3 63 G M (sh_i M) (ff_M_way t a1 a2 M) 0 [some (.ref t), some (.int a1), some (.int a2)] [] M := by
  unfold ff_M_way
  refine im_gd (fun hg => ?_)
  refine im_aload_n 0 0 rfl rfl ?_
  refine im_iload_n 1 1 rfl rfl ?_
  refine im_iload_n 2 2 rfl rfl ?_
  refine im_jp (fun j11 => ∀ (x1 : Int32), im_I mi_M_way 3 63 G M (sh_i M) (j11 x1) 11 [none, none, none] [.int x1, .int a1, .ref t] M) ?_ (fun j11 hj11 => ?_)
  · intro x1
    show im_I mi_M_way 3 63 G M (sh_i M) (_) 11 [none, none, none] [.int x1, .int a1, .ref t] M
    refine im_ci (S := []) (fun _ hv => cpV (fr' := 2) (lo' := 41) (i := 7) (As := [.int a1, .int x1]) (S := []) (a := t) (c := 11) rfl lk_M_80 mw_M_bl mv_M_bl rfl ⟨by decide, rfl⟩ rfl rfl rfl (gd_some hv).1 (sp_M_bl G hv)) (fun x2 => ?_)
    exact im_end rfl (wp_ireturn 8 14 rfl rfl)
  refine im_if_ne 3 3 10 rfl (by decide) ?_ ?_
  · refine im_iconst 6 10 rfl rfl ?_
    exact im_less _ (by simp [lv_le]) (hj11 (4 : Int32))
  · refine im_iconst 4 6 rfl rfl ?_
    refine im_goto 5 7 11 rfl (by decide) ?_
    exact im_less _ (by simp [lv_le]) (hj11 (3 : Int32))

theorem sp_M_way (G : gl_T) {t : Nat} {a1 : Int32} {a2 : Int32} {M : mm_T} {y : Int32} (h : ff_M_way t a1 a2 M = some y) : sp_S mi_M_way 3 63 G [.ref t, .int a1, .int a2] M ((sh_i M) y).1 ((sh_i M) y).2 := sp_of mo_M_way mw_M_way (Or.inl (by decide +kernel)) rfl rfl (Or.inl rfl) (ip_M_way G t a1 a2 M y h)

set_option maxRecDepth 100000 in
set_option maxHeartbeats 4000000 in
theorem li_M_leads_2 (G : gl_T) (p0 : Nat) (p1 : Int32) (p2 : Int32) (M : mm_T) : ∀ (fu : Nat) (q3 : Int32), im_I mi_M_leads 4 85 G M (sh_i M) (lf_M_leads_2 p0 p1 p2 M fu q3) 2 [some (.ref p0), some (.int p1), some (.int p2), some (.int q3)] [] M := by
  intro fu
  induction fu with
  | zero => intro _; exact im_none
  | succ fu ih =>
    intro q3
    show im_I mi_M_leads 4 85 G M (sh_i M) (lb_M_leads_2 p0 p1 p2 M (lf_M_leads_2 p0 p1 p2 M fu) q3) 2 [some (.ref p0), some (.int p1), some (.int p2), some (.int q3)] [] M
    unfold lb_M_leads_2
    refine im_iload_n 2 2 rfl rfl ?_
    refine im_aload_n 3 3 rfl rfl ?_
    refine im_iload_n 4 4 rfl rfl ?_
    refine im_ci (S := [.int q3]) (fun _ hv => cpV (fr' := 3) (lo' := 63) (i := 5) (As := [.int p1]) (S := [.int q3]) (a := p0) (c := 11) rfl lk_M_90 mw_M_ways mv_M_ways rfl ⟨by decide, rfl⟩ rfl rfl rfl (gd_some hv).1 (sp_M_ways G hv)) (fun x1 => ?_)
    refine im_ic_ge 6 8 29 rfl (by decide) ?_ ?_
    · refine im_iconst 17 29 rfl rfl ?_
      exact im_end rfl (wp_zreturn 18 30 (ty := .boolean) rfl (by first | exact nz_0 | exact nz_1) rfl)
    · refine im_aload_n 7 11 rfl rfl ?_
      refine im_iload_n 8 12 rfl rfl ?_
      refine im_iload_n 9 13 rfl rfl ?_
      refine im_ci (S := []) (fun _ hv => cpV (fr' := 3) (lo' := 63) (i := 10) (As := [.int p1, .int q3]) (S := []) (a := p0) (c := 11) rfl lk_M_93 mw_M_way mv_M_way rfl ⟨by decide, rfl⟩ rfl rfl rfl (gd_some hv).1 (sp_M_way G hv)) (fun x2 => ?_)
      refine im_iload_n 11 17 rfl rfl ?_
      refine im_ic_ne 12 18 23 rfl (by decide) ?_ ?_
      · refine im_iincL 15 23 (fun x3 => [some (.ref p0), some (.int p1), some (.int p2), some (.int x3)]) rfl rfl rfl rfl (fun _ => rfl) (fun x3 => ?_)
        refine im_goto 16 26 2 rfl (by decide) ?_
        exact im_less _ (by simp [lv_le]) (ih x3)
      · refine im_iconst 13 21 rfl rfl ?_
        exact im_end rfl (wp_zreturn 14 22 (ty := .boolean) rfl (by first | exact nz_0 | exact nz_1) rfl)

set_option maxRecDepth 100000 in
set_option maxHeartbeats 4000000 in
theorem ip_M_leads (G : gl_T) (t : Nat) (a1 : Int32) (a2 : Int32) (M : mm_T) : im_I mi_M_leads 4 85 G M (sh_i M) (ff_M_leads t a1 a2 M) 0 [some (.ref t), some (.int a1), some (.int a2), none] [] M := by
  unfold ff_M_leads
  refine im_gd (fun hg => ?_)
  refine im_iconst 0 0 rfl rfl ?_
  refine im_istore_n 1 1 [some (.ref t), some (.int a1), some (.int a2), some (.int (0 : Int32))] rfl rfl rfl ?_
  refine im_less [some (.ref t), some (.int a1), some (.int a2), some (.int (0 : Int32))] (by simp [lv_le]) ?_
  exact li_M_leads_2 G t a1 a2 M fu_L (0 : Int32)

theorem sp_M_leads (G : gl_T) {t : Nat} {a1 : Int32} {a2 : Int32} {M : mm_T} {y : Int32} (h : ff_M_leads t a1 a2 M = some y) : sp_S mi_M_leads 4 85 G [.ref t, .int a1, .int a2] M ((sh_i M) y).1 ((sh_i M) y).2 := sp_of mo_M_leads mw_M_leads (Or.inl (by decide +kernel)) rfl rfl (Or.inl rfl) (ip_M_leads G t a1 a2 M y h)

set_option maxRecDepth 100000 in
set_option maxHeartbeats 4000000 in
theorem ip_M_isDefinition (G : gl_T) (t : Nat) (a1 : Int32) (M : mm_T) : im_I mi_M_isDefinition 3 63 G M (sh_i M) (ff_M_isDefinition t a1 M) 0 [some (.ref t), some (.int a1)] [] M := by
  unfold ff_M_isDefinition
  refine im_gd (fun hg => ?_)
  refine im_aload_n 0 0 rfl rfl ?_
  refine im_iload_n 1 1 rfl rfl ?_
  refine im_iconst 2 2 rfl rfl ?_
  refine im_ci (S := []) (fun _ hv => cpV (fr' := 2) (lo' := 41) (i := 3) (As := [.int a1, .int (0 : Int32)]) (S := []) (a := t) (c := 11) rfl lk_M_96 mw_M_it mv_M_it rfl ⟨by decide, rfl⟩ rfl rfl rfl (gd_some hv).1 (sp_M_it G hv)) (fun x1 => ?_)
  refine im_iconst 4 6 rfl rfl ?_
  refine im_ic_eq 5 7 14 rfl (by decide) ?_ ?_
  · refine im_iconst 8 14 rfl rfl ?_
    exact im_end rfl (wp_zreturn 9 15 (ty := .boolean) rfl (by first | exact nz_0 | exact nz_1) rfl)
  · refine im_iconst 6 10 rfl rfl ?_
    refine im_goto 7 11 15 rfl (by decide) ?_
    exact im_end rfl (wp_zreturn 9 15 (ty := .boolean) rfl (by first | exact nz_0 | exact nz_1) rfl)

theorem sp_M_isDefinition (G : gl_T) {t : Nat} {a1 : Int32} {M : mm_T} {y : Int32} (h : ff_M_isDefinition t a1 M = some y) : sp_S mi_M_isDefinition 3 63 G [.ref t, .int a1] M ((sh_i M) y).1 ((sh_i M) y).2 := sp_of mo_M_isDefinition mw_M_isDefinition (Or.inl (by decide +kernel)) rfl rfl (Or.inl rfl) (ip_M_isDefinition G t a1 M y h)

set_option maxRecDepth 100000 in
set_option maxHeartbeats 4000000 in
theorem ip_M_defines (G : gl_T) (t : Nat) (a1 : Int32) (a2 : Int32) (M : mm_T) : im_I mi_M_defines 4 84 G M (sh_i M) (ff_M_defines t a1 a2 M) 0 [some (.ref t), some (.int a1), some (.int a2)] [] M := by
  unfold ff_M_defines
  refine im_gd (fun hg => ?_)
  refine im_aload_n 0 0 rfl rfl ?_
  refine im_iload_n 1 1 rfl rfl ?_
  refine im_ci (S := []) (fun _ hv => cpV (fr' := 3) (lo' := 63) (i := 2) (As := [.int a1]) (S := []) (a := t) (c := 11) rfl lk_M_99 mw_M_isDefinition mv_M_isDefinition rfl ⟨by decide, rfl⟩ rfl rfl rfl (gd_some hv).1 (sp_M_isDefinition G hv)) (fun x1 => ?_)
  refine im_if_eq 3 5 22 rfl (by decide) ?_ ?_
  · refine im_iconst 12 22 rfl rfl ?_
    exact im_end rfl (wp_zreturn 13 23 (ty := .boolean) rfl (by first | exact nz_0 | exact nz_1) rfl)
  · refine im_aload_n 4 8 rfl rfl ?_
    refine im_iload_n 5 9 rfl rfl ?_
    refine im_iconst 6 10 rfl rfl ?_
    refine im_ci (S := []) (fun _ hv => cpV (fr' := 2) (lo' := 41) (i := 7) (As := [.int a1, .int (1 : Int32)]) (S := []) (a := t) (c := 11) rfl lk_M_96 mw_M_it mv_M_it rfl ⟨by decide, rfl⟩ rfl rfl rfl (gd_some hv).1 (sp_M_it G hv)) (fun x2 => ?_)
    refine im_iload_n 8 14 rfl rfl ?_
    refine im_ic_ne 9 15 22 rfl (by decide) ?_ ?_
    · refine im_iconst 12 22 rfl rfl ?_
      exact im_end rfl (wp_zreturn 13 23 (ty := .boolean) rfl (by first | exact nz_0 | exact nz_1) rfl)
    · refine im_iconst 10 18 rfl rfl ?_
      refine im_goto 11 19 23 rfl (by decide) ?_
      exact im_end rfl (wp_zreturn 13 23 (ty := .boolean) rfl (by first | exact nz_0 | exact nz_1) rfl)

theorem sp_M_defines (G : gl_T) {t : Nat} {a1 : Int32} {a2 : Int32} {M : mm_T} {y : Int32} (h : ff_M_defines t a1 a2 M = some y) : sp_S mi_M_defines 4 84 G [.ref t, .int a1, .int a2] M ((sh_i M) y).1 ((sh_i M) y).2 := sp_of mo_M_defines mw_M_defines (Or.inl (by decide +kernel)) rfl rfl (Or.inl rfl) (ip_M_defines G t a1 a2 M y h)

set_option maxRecDepth 100000 in
set_option maxHeartbeats 4000000 in
theorem ip_M_uses (G : gl_T) (t : Nat) (a1 : Int32) (a2 : Int32) (M : mm_T) : im_I mi_M_uses 3 63 G M (sh_i M) (ff_M_uses t a1 a2 M) 0 [some (.ref t), some (.int a1), some (.int a2)] [] M := by
  unfold ff_M_uses
  refine im_gd (fun hg => ?_)
  refine im_aload_n 0 0 rfl rfl ?_
  refine im_iload_n 1 1 rfl rfl ?_
  refine im_iconst 2 2 rfl rfl ?_
  refine im_ci (S := []) (fun _ hv => cpV (fr' := 2) (lo' := 41) (i := 3) (As := [.int a1, .int (0 : Int32)]) (S := []) (a := t) (c := 11) rfl lk_M_96 mw_M_it mv_M_it rfl ⟨by decide, rfl⟩ rfl rfl rfl (gd_some hv).1 (sp_M_it G hv)) (fun x1 => ?_)
  refine im_ite (fun h1 => ?_) (fun h1 => ?_)
  · refine im_lookup 4 6 32 rfl (by decide) (off := 26) (by rw [h1]; rfl) (by decide) ?_
    refine im_iconst 5 32 rfl rfl ?_
    exact im_end rfl (wp_zreturn 6 33 (ty := .boolean) rfl (by first | exact nz_0 | exact nz_1) rfl)
  refine im_ite (fun h2 => ?_) (fun h2 => ?_)
  · refine im_lookup 4 6 34 rfl (by decide) (off := 28) (by rw [h2]; rfl) (by decide) ?_
    refine im_aload_n 7 34 rfl rfl ?_
    refine im_iload_n 8 35 rfl rfl ?_
    refine im_iconst 9 36 rfl rfl ?_
    refine im_ci (S := []) (fun _ hv => cpV (fr' := 2) (lo' := 41) (i := 10) (As := [.int a1, .int (2 : Int32)]) (S := []) (a := t) (c := 11) rfl lk_M_96 mw_M_it mv_M_it rfl ⟨by decide, rfl⟩ rfl rfl rfl (gd_some hv).1 (sp_M_it G hv)) (fun x2 => ?_)
    refine im_iload_n 11 40 rfl rfl ?_
    refine im_jp (fun j54 => im_I mi_M_uses 3 63 G M (sh_i M) (j54) 54 [none, none, none] [] M) ?_ (fun j54 hj54 => ?_)
    · show im_I mi_M_uses 3 63 G M (sh_i M) (_) 54 [none, none, none] [] M
      refine im_iconst 19 54 rfl rfl ?_
      refine im_goto 20 55 59 rfl (by decide) ?_
      exact im_end rfl (wp_zreturn 22 59 (ty := .boolean) rfl (by first | exact nz_0 | exact nz_1) rfl)
    refine im_ic_eq 12 41 54 rfl (by decide) ?_ ?_
    · exact im_less _ (by simp [lv_le]) (hj54)
    · refine im_aload_n 13 44 rfl rfl ?_
      refine im_iload_n 14 45 rfl rfl ?_
      refine im_iconst 15 46 rfl rfl ?_
      refine im_ci (S := []) (fun _ hv => cpV (fr' := 2) (lo' := 41) (i := 16) (As := [.int a1, .int (4 : Int32)]) (S := []) (a := t) (c := 11) rfl lk_M_96 mw_M_it mv_M_it rfl ⟨by decide, rfl⟩ rfl rfl rfl (gd_some hv).1 (sp_M_it G hv)) (fun x3 => ?_)
      refine im_iload_n 17 50 rfl rfl ?_
      refine im_ic_ne 18 51 58 rfl (by decide) ?_ ?_
      · refine im_iconst 21 58 rfl rfl ?_
        exact im_end rfl (wp_zreturn 22 59 (ty := .boolean) rfl (by first | exact nz_0 | exact nz_1) rfl)
      · exact im_less _ (by simp [lv_le]) (hj54)
  refine im_lookup 4 6 60 rfl (by decide) (off := 54) ((lv_osw (k := 0) h1 rfl).trans ((lv_osw (k := 2) h2 rfl).trans rfl)) (by decide) ?_
  refine im_aload_n 23 60 rfl rfl ?_
  refine im_iload_n 24 61 rfl rfl ?_
  refine im_iconst 25 62 rfl rfl ?_
  refine im_ci (S := []) (fun _ hv => cpV (fr' := 2) (lo' := 41) (i := 26) (As := [.int a1, .int (2 : Int32)]) (S := []) (a := t) (c := 11) rfl lk_M_96 mw_M_it mv_M_it rfl ⟨by decide, rfl⟩ rfl rfl rfl (gd_some hv).1 (sp_M_it G hv)) (fun x4 => ?_)
  refine im_iload_n 27 66 rfl rfl ?_
  refine im_ic_ne 28 67 74 rfl (by decide) ?_ ?_
  · refine im_iconst 31 74 rfl rfl ?_
    exact im_end rfl (wp_zreturn 32 75 (ty := .boolean) rfl (by first | exact nz_0 | exact nz_1) rfl)
  · refine im_iconst 29 70 rfl rfl ?_
    refine im_goto 30 71 75 rfl (by decide) ?_
    exact im_end rfl (wp_zreturn 32 75 (ty := .boolean) rfl (by first | exact nz_0 | exact nz_1) rfl)

theorem sp_M_uses (G : gl_T) {t : Nat} {a1 : Int32} {a2 : Int32} {M : mm_T} {y : Int32} (h : ff_M_uses t a1 a2 M = some y) : sp_S mi_M_uses 3 63 G [.ref t, .int a1, .int a2] M ((sh_i M) y).1 ((sh_i M) y).2 := sp_of mo_M_uses mw_M_uses (Or.inl (by decide +kernel)) rfl rfl (Or.inl rfl) (ip_M_uses G t a1 a2 M y h)

set_option maxRecDepth 100000 in
set_option maxHeartbeats 4000000 in
theorem ip_M_usesAtExit (G : gl_T) (t : Nat) (a1 : Int32) (a2 : Int32) (M : mm_T) : im_I mi_M_usesAtExit 3 63 G M (sh_i M) (ff_M_usesAtExit t a1 a2 M) 0 [some (.ref t), some (.int a1), some (.int a2)] [] M := by
  unfold ff_M_usesAtExit
  refine im_gd (fun hg => ?_)
  refine im_aload_n 0 0 rfl rfl ?_
  refine im_iload_n 1 1 rfl rfl ?_
  refine im_iconst 2 2 rfl rfl ?_
  refine im_ci (S := []) (fun _ hv => cpV (fr' := 2) (lo' := 41) (i := 3) (As := [.int a1, .int (1 : Int32)]) (S := []) (a := t) (c := 11) rfl lk_M_80 mw_M_bl mv_M_bl rfl ⟨by decide, rfl⟩ rfl rfl rfl (gd_some hv).1 (sp_M_bl G hv)) (fun x1 => ?_)
  refine im_iconst 4 6 rfl rfl ?_
  refine im_ic_ne 5 7 24 rfl (by decide) ?_ ?_
  · refine im_iconst 14 24 rfl rfl ?_
    exact im_end rfl (wp_zreturn 15 25 (ty := .boolean) rfl (by first | exact nz_0 | exact nz_1) rfl)
  · refine im_aload_n 6 10 rfl rfl ?_
    refine im_iload_n 7 11 rfl rfl ?_
    refine im_iconst 8 12 rfl rfl ?_
    refine im_ci (S := []) (fun _ hv => cpV (fr' := 2) (lo' := 41) (i := 9) (As := [.int a1, .int (2 : Int32)]) (S := []) (a := t) (c := 11) rfl lk_M_80 mw_M_bl mv_M_bl rfl ⟨by decide, rfl⟩ rfl rfl rfl (gd_some hv).1 (sp_M_bl G hv)) (fun x2 => ?_)
    refine im_iload_n 10 16 rfl rfl ?_
    refine im_ic_ne 11 17 24 rfl (by decide) ?_ ?_
    · refine im_iconst 14 24 rfl rfl ?_
      exact im_end rfl (wp_zreturn 15 25 (ty := .boolean) rfl (by first | exact nz_0 | exact nz_1) rfl)
    · refine im_iconst 12 20 rfl rfl ?_
      refine im_goto 13 21 25 rfl (by decide) ?_
      exact im_end rfl (wp_zreturn 15 25 (ty := .boolean) rfl (by first | exact nz_0 | exact nz_1) rfl)

theorem sp_M_usesAtExit (G : gl_T) {t : Nat} {a1 : Int32} {a2 : Int32} {M : mm_T} {y : Int32} (h : ff_M_usesAtExit t a1 a2 M = some y) : sp_S mi_M_usesAtExit 3 63 G [.ref t, .int a1, .int a2] M ((sh_i M) y).1 ((sh_i M) y).2 := sp_of mo_M_usesAtExit mw_M_usesAtExit (Or.inl (by decide +kernel)) rfl rfl (Or.inl rfl) (ip_M_usesAtExit G t a1 a2 M y h)

set_option maxRecDepth 100000 in
set_option maxHeartbeats 4000000 in
theorem li_M_definesWithin_3 (G : gl_T) (p0 : Nat) (p2 : Int32) (p3 : Int32) (M : mm_T) : ∀ (fu : Nat) (q4 : Int32), im_I mi_M_definesWithin 5 106 G M (sh_i M) (lf_M_definesWithin_3 p0 p2 p3 M fu q4) 3 [some (.ref p0), none, some (.int p2), some (.int p3), some (.int q4)] [] M := by
  intro fu
  induction fu with
  | zero => intro _; exact im_none
  | succ fu ih =>
    intro q4
    show im_I mi_M_definesWithin 5 106 G M (sh_i M) (lb_M_definesWithin_3 p0 p2 p3 M (lf_M_definesWithin_3 p0 p2 p3 M fu) q4) 3 [some (.ref p0), none, some (.int p2), some (.int p3), some (.int q4)] [] M
    unfold lb_M_definesWithin_3
    refine im_iload 2 3 rfl rfl ?_
    refine im_iload_n 3 5 rfl rfl ?_
    refine im_ic_ge 4 6 27 rfl (by decide) ?_ ?_
    · refine im_iconst 14 27 rfl rfl ?_
      exact im_end rfl (wp_zreturn 15 28 (ty := .boolean) rfl (by first | exact nz_0 | exact nz_1) rfl)
    · refine im_aload_n 5 9 rfl rfl ?_
      refine im_iload 6 10 rfl rfl ?_
      refine im_iload_n 7 12 rfl rfl ?_
      refine im_ci (S := []) (fun _ hv => cpV (fr' := 4) (lo' := 84) (i := 8) (As := [.int q4, .int p3]) (S := []) (a := p0) (c := 11) rfl lk_M_103 mw_M_defines mv_M_defines rfl ⟨by decide, rfl⟩ rfl rfl rfl (gd_some hv).1 (sp_M_defines G hv)) (fun x1 => ?_)
      refine im_if_eq 9 16 21 rfl (by decide) ?_ ?_
      · refine im_iincL 12 21 (fun x2 => [some (.ref p0), none, some (.int p2), some (.int p3), some (.int x2)]) rfl rfl rfl rfl (fun _ => rfl) (fun x2 => ?_)
        refine im_goto 13 24 3 rfl (by decide) ?_
        exact im_less _ (by simp [lv_le]) (ih x2)
      · refine im_iconst 10 19 rfl rfl ?_
        exact im_end rfl (wp_zreturn 11 20 (ty := .boolean) rfl (by first | exact nz_0 | exact nz_1) rfl)

set_option maxRecDepth 100000 in
set_option maxHeartbeats 4000000 in
theorem ip_M_definesWithin (G : gl_T) (t : Nat) (a1 : Int32) (a2 : Int32) (a3 : Int32) (M : mm_T) : im_I mi_M_definesWithin 5 106 G M (sh_i M) (ff_M_definesWithin t a1 a2 a3 M) 0 [some (.ref t), some (.int a1), some (.int a2), some (.int a3), none] [] M := by
  unfold ff_M_definesWithin
  refine im_gd (fun hg => ?_)
  refine im_iload_n 0 0 rfl rfl ?_
  refine im_istore 1 1 [some (.ref t), some (.int a1), some (.int a2), some (.int a3), some (.int a1)] rfl rfl rfl ?_
  refine im_less [some (.ref t), none, some (.int a2), some (.int a3), some (.int a1)] (by simp [lv_le]) ?_
  exact li_M_definesWithin_3 G t a2 a3 M fu_L a1

theorem sp_M_definesWithin (G : gl_T) {t : Nat} {a1 : Int32} {a2 : Int32} {a3 : Int32} {M : mm_T} {y : Int32} (h : ff_M_definesWithin t a1 a2 a3 M = some y) : sp_S mi_M_definesWithin 5 106 G [.ref t, .int a1, .int a2, .int a3] M ((sh_i M) y).1 ((sh_i M) y).2 := sp_of mo_M_definesWithin mw_M_definesWithin (Or.inl (by decide +kernel)) rfl rfl (Or.inl rfl) (ip_M_definesWithin G t a1 a2 a3 M y h)

set_option maxRecDepth 100000 in
set_option maxHeartbeats 4000000 in
theorem li_M_forgets_2 (G : gl_T) (M0 : mm_T) (p0 : Nat) : ∀ (fu : Nat) (q1 : Int32) (N : mm_T), im_I mi_M_forgets 1 20 G M0 sw_v (lf_M_forgets_2 p0 fu q1 N) 2 [some (.ref p0), some (.int q1)] [] N := by
  intro fu
  induction fu with
  | zero => intro _ _; exact im_none
  | succ fu ih =>
    intro q1 N
    show im_I mi_M_forgets 1 20 G M0 sw_v (lb_M_forgets_2 p0 (lf_M_forgets_2 p0 fu) q1 N) 2 [some (.ref p0), some (.int q1)] [] N
    unfold lb_M_forgets_2
    refine im_iload_n 2 2 rfl rfl ?_
    refine im_bipush 3 3 rfl rfl ?_
    refine im_ic_ge 4 5 21 rfl (by decide) ?_ ?_
    · exact im_end rfl (wp_return 12 21 rfl rfl)
    · refine im_aload_n 5 8 rfl rfl ?_
      refine im_getR 6 9 rfl fd_M_17 (by decide +kernel) (fun x1 => ?_)
      refine im_iload_n 7 12 rfl rfl ?_
      refine im_iconst 8 13 rfl rfl ?_
      refine im_bastore 9 14 rfl (fun M1 => ?_)
      refine im_iincL 10 15 (fun x2 => [some (.ref p0), some (.int x2)]) rfl rfl rfl rfl (fun _ => rfl) (fun x2 => ?_)
      refine im_goto 11 18 2 rfl (by decide) ?_
      exact im_less _ (by simp [lv_le]) (ih x2 M1)

set_option maxRecDepth 100000 in
set_option maxHeartbeats 4000000 in
theorem ip_M_forgets (G : gl_T) (t : Nat) (M : mm_T) : im_I mi_M_forgets 1 20 G M sw_v (ff_M_forgets t M) 0 [some (.ref t), none] [] M := by
  unfold ff_M_forgets
  refine im_gd (fun hg => ?_)
  refine im_iconst 0 0 rfl rfl ?_
  refine im_istore_n 1 1 [some (.ref t), some (.int (0 : Int32))] rfl rfl rfl ?_
  refine im_less [some (.ref t), some (.int (0 : Int32))] (by simp [lv_le]) ?_
  exact li_M_forgets_2 G M t fu_L (0 : Int32) M

theorem sp_M_forgets (G : gl_T) {t : Nat} {M : mm_T} {y : mm_T} (h : ff_M_forgets t M = some y) : sp_S mi_M_forgets 1 20 G [.ref t] M (sw_v y).1 (sw_v y).2 := sp_of mo_M_forgets mw_M_forgets (Or.inl (by decide +kernel)) rfl rfl (Or.inl rfl) (ip_M_forgets G t M y h)

set_option maxRecDepth 100000 in
set_option maxHeartbeats 4000000 in
theorem li_M_walks_49 (G : gl_T) (M0 : mm_T) (rcf : Nat → Int32 → Int32 → Int32 → mm_T → Option (mm_T)) {d : Nat} (hrc : ∀ {t_ a1_ a2_ a3_} {Mr : mm_T} {y : mm_T}, rcf t_ a1_ a2_ a3_ Mr = some y → (mm_k Mr t_).1 = 11 ∧ sp_S mi_M_walks (6 + d) (130 + d * 24) G [.ref t_, .int a1_, .int a2_, .int a3_] Mr (sw_v y).1 (sw_v y).2) (p0 : Nat) (p1 : Int32) (p2 : Int32) (p3 : Int32) : ∀ (fu : Nat) (q4 : Int32) (N : mm_T), im_I mi_M_walks (6 + (d + 1)) (130 + (d + 1) * 24) G M0 sw_v (lf_M_walks_49 rcf p0 p1 p2 p3 fu q4 N) 49 [some (.ref p0), some (.int p1), some (.int p2), some (.int p3), some (.int q4)] [] N := by
  intro fu
  induction fu with
  | zero => intro _ _; exact im_none
  | succ fu ih =>
    intro q4 N
    show im_I mi_M_walks (6 + (d + 1)) (130 + (d + 1) * 24) G M0 sw_v (lb_M_walks_49 rcf p0 p1 p2 p3 (lf_M_walks_49 rcf p0 p1 p2 p3 fu) q4 N) 49 [some (.ref p0), some (.int p1), some (.int p2), some (.int p3), some (.int q4)] [] N
    unfold lb_M_walks_49
    refine im_iload 30 49 rfl rfl ?_
    refine im_aload_n 31 51 rfl rfl ?_
    refine im_iload_n 32 52 rfl rfl ?_
    refine im_ci (S := [.int q4]) (fun _ hv => cpV (fr' := 3) (lo' := 63) (i := 33) (As := [.int p1]) (S := [.int q4]) (a := p0) (c := 11) rfl lk_M_90 mw_M_ways mv_M_ways rfl ⟨by decide, rfl⟩ rfl rfl (cn_mk (by omega) (by show 8 + (2 + 11) + _ ≤ _; omega) rfl) (gd_some hv).1 (sp_M_ways G hv)) (fun x4 => ?_)
    refine im_ic_ge 34 56 78 rfl (by decide) ?_ ?_
    · exact im_end rfl (wp_return 45 78 rfl rfl)
    · refine im_aload_n 35 59 rfl rfl ?_
      refine im_aload_n 36 60 rfl rfl ?_
      refine im_iload_n 37 61 rfl rfl ?_
      refine im_iload 38 62 rfl rfl ?_
      refine im_ci (S := [.ref p0]) (fun _ hv => cpV (fr' := 3) (lo' := 63) (i := 39) (As := [.int p1, .int q4]) (S := [.ref p0]) (a := p0) (c := 11) rfl lk_M_93 mw_M_way mv_M_way rfl ⟨by decide, rfl⟩ rfl rfl (cn_mk (by omega) (by show 8 + (3 + 11) + _ ≤ _; omega) rfl) (gd_some hv).1 (sp_M_way G hv)) (fun x5 => ?_)
      refine im_iload_n 40 67 rfl rfl ?_
      refine im_iload_n 41 68 rfl rfl ?_
      refine im_cWv (S := []) (fun _ hv => cpV (fr' := (6 + d)) (lo' := (130 + d * 24)) (i := 42) (As := [.int x5, .int p2, .int p3]) (S := []) (a := p0) (c := 11) rfl lk_M_111 mw_M_walks mv_M_walks rfl ⟨by decide, rfl⟩ rfl rfl (cn_mk (by omega) (by show 8 + (5 + 11) + _ ≤ _; omega) rfl) (hrc hv).1 (hrc hv).2) (fun M2 => ?_)
      refine im_iincL 43 72 (fun x6 => [some (.ref p0), some (.int p1), some (.int p2), some (.int p3), some (.int x6)]) rfl rfl rfl rfl (fun _ => rfl) (fun x6 => ?_)
      refine im_goto 44 75 49 rfl (by decide) ?_
      exact im_less _ (by simp [lv_le]) (ih x6 M2)

set_option maxRecDepth 100000 in
set_option maxHeartbeats 4000000 in
theorem ip_M_walks (G : gl_T) (rcf : Nat → Int32 → Int32 → Int32 → mm_T → Option (mm_T)) {d : Nat} (hrc : ∀ {t_ a1_ a2_ a3_} {Mr : mm_T} {y : mm_T}, rcf t_ a1_ a2_ a3_ Mr = some y → (mm_k Mr t_).1 = 11 ∧ sp_S mi_M_walks (6 + d) (130 + d * 24) G [.ref t_, .int a1_, .int a2_, .int a3_] Mr (sw_v y).1 (sw_v y).2) (t : Nat) (a1 : Int32) (a2 : Int32) (a3 : Int32) (M : mm_T) : im_I mi_M_walks (6 + (d + 1)) (130 + (d + 1) * 24) G M sw_v (fb_M_walks rcf t a1 a2 a3 M) 0 [some (.ref t), some (.int a1), some (.int a2), some (.int a3), none] [] M := by
  unfold fb_M_walks
  refine im_gd (fun hg => ?_)
  refine im_aload_n 0 0 rfl rfl ?_
  refine im_getR 1 1 rfl fd_M_17 (by decide +kernel) (fun x1 => ?_)
  refine im_iload_n 2 4 rfl rfl ?_
  refine im_baload 3 5 rfl (fun x2 => ?_)
  refine im_if_ne 4 6 14 rfl (by decide) ?_ ?_
  · exact im_end rfl (wp_return 8 14 rfl rfl)
  · refine im_iload_n 5 9 rfl rfl ?_
    refine im_iload_n 6 10 rfl rfl ?_
    refine im_ic_ne 7 11 15 rfl (by decide) ?_ ?_
    · refine im_aload_n 9 15 rfl rfl ?_
      refine im_getR 10 16 rfl fd_M_17 (by decide +kernel) (fun x3 => ?_)
      refine im_iload_n 11 19 rfl rfl ?_
      refine im_iconst 12 20 rfl rfl ?_
      refine im_bastore 13 21 rfl (fun M1 => ?_)
      refine im_iload_n 14 22 rfl rfl ?_
      refine im_iconst 15 23 rfl rfl ?_
      refine im_jp (fun j46 => im_I mi_M_walks (6 + (d + 1)) (130 + (d + 1) * 24) G M sw_v (j46) 46 [some (.ref t), some (.int a1), some (.int a2), some (.int a3), none] [] M1) ?_ (fun j46 hj46 => ?_)
      · show im_I mi_M_walks (6 + (d + 1)) (130 + (d + 1) * 24) G M sw_v (_) 46 [some (.ref t), some (.int a1), some (.int a2), some (.int a3), none] [] M1
        refine im_iconst 28 46 rfl rfl ?_
        refine im_istore 29 47 [some (.ref t), some (.int a1), some (.int a2), some (.int a3), some (.int (0 : Int32))] rfl rfl rfl ?_
        refine im_less [some (.ref t), some (.int a1), some (.int a2), some (.int a3), some (.int (0 : Int32))] (by simp [lv_le]) ?_
        exact li_M_walks_49 G M rcf hrc t a1 a2 a3 fu_L (0 : Int32) M1
      refine im_ic_eq 16 24 46 rfl (by decide) ?_ ?_
      · exact im_less _ (by simp [lv_le]) (hj46)
      · refine im_aload_n 17 27 rfl rfl ?_
        refine im_aload_n 18 28 rfl rfl ?_
        refine im_iload_n 19 29 rfl rfl ?_
        refine im_ci (S := [.ref t]) (fun _ hv => cpV (fr' := 3) (lo' := 63) (i := 20) (As := [.int a1]) (S := [.ref t]) (a := t) (c := 11) rfl lk_M_84 mw_M_firstOf mv_M_firstOf rfl ⟨by decide, rfl⟩ rfl rfl (cn_mk (by omega) (by show 8 + (4 + 11) + _ ≤ _; omega) rfl) (gd_some hv).1 (sp_M_firstOf G hv)) (fun x7 => ?_)
        refine im_aload_n 21 33 rfl rfl ?_
        refine im_iload_n 22 34 rfl rfl ?_
        refine im_ci (S := [.int x7, .ref t]) (fun _ hv => cpV (fr' := 4) (lo' := 86) (i := 23) (As := [.int a1]) (S := [.int x7, .ref t]) (a := t) (c := 11) rfl lk_M_87 mw_M_endOf mv_M_endOf rfl ⟨by decide, rfl⟩ rfl rfl (cn_mk (by omega) (by show 8 + (2 + 11) + _ ≤ _; omega) rfl) (gd_some hv).1 (sp_M_endOf G hv)) (fun x8 => ?_)
        refine im_iload_n 24 38 rfl rfl ?_
        refine im_ci (S := []) (fun _ hv => cpV (fr' := 5) (lo' := 106) (i := 25) (As := [.int x7, .int x8, .int a2]) (S := []) (a := t) (c := 11) rfl lk_M_107 mw_M_definesWithin mv_M_definesWithin rfl ⟨by decide, rfl⟩ rfl rfl (cn_mk (by omega) (by show 8 + (5 + 11) + _ ≤ _; omega) rfl) (gd_some hv).1 (sp_M_definesWithin G hv)) (fun x9 => ?_)
        refine im_if_eq 26 42 46 rfl (by decide) ?_ ?_
        · exact im_less _ (by simp [lv_le]) (hj46)
        · exact im_end rfl (wp_return 27 45 rfl rfl)
    · exact im_end rfl (wp_return 8 14 rfl rfl)

theorem sp_M_walks (G : gl_T) : ∀ (d : Nat) {t : Nat} {a1 : Int32} {a2 : Int32} {a3 : Int32} {M : mm_T} {y : mm_T}, ff_M_walks d t a1 a2 a3 M = some y → (mm_k M t).1 = 11 ∧ sp_S mi_M_walks (6 + d) (130 + d * 24) G [.ref t, .int a1, .int a2, .int a3] M (sw_v y).1 (sw_v y).2 := by
  intro d
  induction d with
  | zero => intro _ _ _ _ _ _ h; exact nomatch h
  | succ d ih =>
    intro t a1 a2 a3 M y h
    exact ⟨(gd_some h).1, sp_of mo_M_walks mw_M_walks (Or.inl (by decide +kernel)) rfl rfl (Or.inl rfl) (ip_M_walks G (ff_M_walks d) ih t a1 a2 a3 M y h)⟩

set_option maxRecDepth 100000 in
set_option maxHeartbeats 4000000 in
theorem ip_M_isReached (G : gl_T) (t : Nat) (a1 : Int32) (a2 : Int32) (M : mm_T) : im_I mi_M_isReached 20 466 G M sw_i (ff_M_isReached t a1 a2 M) 0 [some (.ref t), some (.int a1), some (.int a2)] [] M := by
  unfold ff_M_isReached
  refine im_gd (fun hg => ?_)
  refine im_aload_n 0 0 rfl rfl ?_
  refine im_cWv (S := []) (fun _ hv => cpV (fr' := 1) (lo' := 20) (i := 1) (As := []) (S := []) (a := t) (c := 11) rfl lk_M_114 mw_M_forgets mv_M_forgets rfl ⟨by decide, rfl⟩ rfl rfl rfl (gd_some hv).1 (sp_M_forgets G hv)) (fun M1 => ?_)
  refine im_aload_n 2 4 rfl rfl ?_
  refine im_iconst 3 5 rfl rfl ?_
  refine im_iconst 4 6 rfl rfl ?_
  refine im_iload_n 5 7 rfl rfl ?_
  refine im_cWv (S := []) (fun _ hv => cpV (fr' := (6 + 13)) (lo' := (130 + 13 * 24)) (i := 6) (As := [.int (0 : Int32), .int (-1 : Int32), .int a2]) (S := []) (a := t) (c := 11) rfl lk_M_111 mw_M_walks mv_M_walks rfl ⟨by decide, rfl⟩ rfl rfl rfl (sp_M_walks G 13 hv).1 (sp_M_walks G 13 hv).2) (fun M2 => ?_)
  refine im_aload_n 7 11 rfl rfl ?_
  refine im_getR 8 12 rfl fd_M_17 (by decide +kernel) (fun x1 => ?_)
  refine im_iload_n 9 15 rfl rfl ?_
  refine im_baload 10 16 rfl (fun x2 => ?_)
  exact im_endZ (fun _ => rfl) (fun hn => wp_zreturn 11 17 (ty := .boolean) rfl hn rfl)

theorem sp_M_isReached (G : gl_T) {t : Nat} {a1 : Int32} {a2 : Int32} {M : mm_T} {y : Int32 × mm_T} (h : ff_M_isReached t a1 a2 M = some y) : sp_S mi_M_isReached 20 466 G [.ref t, .int a1, .int a2] M (sw_i y).1 (sw_i y).2 := sp_of mo_M_isReached mw_M_isReached (Or.inl (by decide +kernel)) rfl rfl (Or.inl rfl) (ip_M_isReached G t a1 a2 M y h)

set_option maxRecDepth 100000 in
set_option maxHeartbeats 4000000 in
theorem li_M_reachedCount_15 (G : gl_T) (M0 : mm_T) (p0 : Nat) (M : mm_T) : ∀ (fu : Nat) (q1 : Int32) (q2 : Int32), im_I mi_M_reachedCount 20 466 G M0 sw_i (lf_M_reachedCount_15 p0 M fu q1 q2) 15 [some (.ref p0), some (.int q1), some (.int q2)] [] M := by
  intro fu
  induction fu with
  | zero => intro _ _; exact im_none
  | succ fu ih =>
    intro q1 q2
    show im_I mi_M_reachedCount 20 466 G M0 sw_i (lb_M_reachedCount_15 p0 M (lf_M_reachedCount_15 p0 M fu) q1 q2) 15 [some (.ref p0), some (.int q1), some (.int q2)] [] M
    unfold lb_M_reachedCount_15
    refine im_iload_n 11 15 rfl rfl ?_
    refine im_aload_n 12 16 rfl rfl ?_
    refine im_iconst 13 17 rfl rfl ?_
    refine im_ci (S := [.int q2]) (fun _ hv => cpV (fr' := 1) (lo' := 20) (i := 14) (As := [.int (0 : Int32)]) (S := [.int q2]) (a := p0) (c := 11) rfl lk_M_61 mw_M_get mv_M_get rfl ⟨by decide, rfl⟩ rfl rfl rfl (gd_some hv).1 (sp_M_get G hv)) (fun x1 => ?_)
    refine im_ic_ge 15 21 42 rfl (by decide) ?_ ?_
    · refine im_iload_n 26 42 rfl rfl ?_
      exact im_end rfl (wp_ireturn 27 43 rfl rfl)
    · refine im_iload_n 16 24 rfl rfl ?_
      refine im_aload_n 17 25 rfl rfl ?_
      refine im_getR 18 26 rfl fd_M_17 (by decide +kernel) (fun x2 => ?_)
      refine im_iload_n 19 29 rfl rfl ?_
      refine im_baload 20 30 rfl (fun x3 => ?_)
      refine im_ci (S := [.int q1]) (fun _ hv => cpS (fr' := 1) (lo' := 20) (i := 21) (As := [.int x3]) (S := [.int q1]) rfl lk_M_117 mw_M_one mv_M_one rfl rfl rfl rfl (sp_M_one G hv)) (fun x4 => ?_)
      refine im_iadd 22 34 rfl ?_
      refine im_letI (fun x5 => ?_)
      refine im_istore_n 23 35 [some (.ref p0), some (.int x5), some (.int q2)] rfl rfl rfl ?_
      refine im_iincL 24 36 (fun x6 => [some (.ref p0), some (.int x5), some (.int x6)]) rfl rfl rfl rfl (fun _ => rfl) (fun x6 => ?_)
      refine im_goto 25 39 15 rfl (by decide) ?_
      exact im_less _ (by simp [lv_le]) (ih x5 x6)

set_option maxRecDepth 100000 in
set_option maxHeartbeats 4000000 in
theorem ip_M_reachedCount (G : gl_T) (t : Nat) (M : mm_T) : im_I mi_M_reachedCount 20 466 G M sw_i (ff_M_reachedCount t M) 0 [some (.ref t), none, none] [] M := by
  unfold ff_M_reachedCount
  refine im_gd (fun hg => ?_)
  refine im_aload_n 0 0 rfl rfl ?_
  refine im_cWv (S := []) (fun _ hv => cpV (fr' := 1) (lo' := 20) (i := 1) (As := []) (S := []) (a := t) (c := 11) rfl lk_M_114 mw_M_forgets mv_M_forgets rfl ⟨by decide, rfl⟩ rfl rfl rfl (gd_some hv).1 (sp_M_forgets G hv)) (fun M1 => ?_)
  refine im_aload_n 2 4 rfl rfl ?_
  refine im_iconst 3 5 rfl rfl ?_
  refine im_iconst 4 6 rfl rfl ?_
  refine im_iconst 5 7 rfl rfl ?_
  refine im_cWv (S := []) (fun _ hv => cpV (fr' := (6 + 13)) (lo' := (130 + 13 * 24)) (i := 6) (As := [.int (0 : Int32), .int (-1 : Int32), .int (-1 : Int32)]) (S := []) (a := t) (c := 11) rfl lk_M_111 mw_M_walks mv_M_walks rfl ⟨by decide, rfl⟩ rfl rfl rfl (sp_M_walks G 13 hv).1 (sp_M_walks G 13 hv).2) (fun M2 => ?_)
  refine im_iconst 7 11 rfl rfl ?_
  refine im_istore_n 8 12 [some (.ref t), some (.int (0 : Int32)), none] rfl rfl rfl ?_
  refine im_iconst 9 13 rfl rfl ?_
  refine im_istore_n 10 14 [some (.ref t), some (.int (0 : Int32)), some (.int (0 : Int32))] rfl rfl rfl ?_
  refine im_less [some (.ref t), some (.int (0 : Int32)), some (.int (0 : Int32))] (by simp [lv_le]) ?_
  exact li_M_reachedCount_15 G M t M2 fu_L (0 : Int32) (0 : Int32)

theorem sp_M_reachedCount (G : gl_T) {t : Nat} {M : mm_T} {y : Int32 × mm_T} (h : ff_M_reachedCount t M = some y) : sp_S mi_M_reachedCount 20 466 G [.ref t] M (sw_i y).1 (sw_i y).2 := sp_of mo_M_reachedCount mw_M_reachedCount (Or.inl (by decide +kernel)) rfl rfl (Or.inl rfl) (ip_M_reachedCount G t M y h)

set_option maxRecDepth 100000 in
set_option maxHeartbeats 4000000 in
theorem li_M_reachesStart_48 (G : gl_T) (M0 : mm_T) (k0 : mm_T → Option (Int32 × mm_T)) (p0 : Nat) (p2 : Int32) (p3 : Int32) (p4 : Int32) (hk0 : ∀ (N : mm_T), im_I mi_M_reachesStart 20 466 G M0 sw_i (k0 N) 78 [some (.ref p0), none, some (.int p2), none, none, none] [] N) : ∀ (fu : Nat) (q5 : Int32) (N : mm_T), im_I mi_M_reachesStart 20 466 G M0 sw_i (lf_M_reachesStart_48 k0 p0 p2 p3 p4 fu q5 N) 48 [some (.ref p0), none, some (.int p2), some (.int p3), some (.int p4), some (.int q5)] [] N := by
  intro fu
  induction fu with
  | zero => intro _ _; exact im_none
  | succ fu ih =>
    intro q5 N
    show im_I mi_M_reachesStart 20 466 G M0 sw_i (lb_M_reachesStart_48 k0 p0 p2 p3 p4 (lf_M_reachesStart_48 k0 p0 p2 p3 p4 fu) q5 N) 48 [some (.ref p0), none, some (.int p2), some (.int p3), some (.int p4), some (.int q5)] [] N
    unfold lb_M_reachesStart_48
    refine im_iload 29 48 rfl rfl ?_
    refine im_aload_n 30 50 rfl rfl ?_
    refine im_iload_n 31 51 rfl rfl ?_
    refine im_ci (S := [.int q5]) (fun _ hv => cpV (fr' := 3) (lo' := 63) (i := 32) (As := [.int p3]) (S := [.int q5]) (a := p0) (c := 11) rfl lk_M_90 mw_M_ways mv_M_ways rfl ⟨by decide, rfl⟩ rfl rfl rfl (gd_some hv).1 (sp_M_ways G hv)) (fun x6 => ?_)
    refine im_ic_ge 33 55 78 rfl (by decide) ?_ ?_
    · exact im_less _ (by simp [lv_le]) (hk0 N)
    · refine im_aload_n 34 58 rfl rfl ?_
      refine im_aload_n 35 59 rfl rfl ?_
      refine im_iload_n 36 60 rfl rfl ?_
      refine im_iload 37 61 rfl rfl ?_
      refine im_ci (S := [.ref p0]) (fun _ hv => cpV (fr' := 3) (lo' := 63) (i := 38) (As := [.int p3, .int q5]) (S := [.ref p0]) (a := p0) (c := 11) rfl lk_M_93 mw_M_way mv_M_way rfl ⟨by decide, rfl⟩ rfl rfl rfl (gd_some hv).1 (sp_M_way G hv)) (fun x7 => ?_)
      refine im_iload 39 66 rfl rfl ?_
      refine im_iconst 40 68 rfl rfl ?_
      refine im_cWv (S := []) (fun _ hv => cpV (fr' := (6 + 13)) (lo' := (130 + 13 * 24)) (i := 41) (As := [.int x7, .int p4, .int (-1 : Int32)]) (S := []) (a := p0) (c := 11) rfl lk_M_111 mw_M_walks mv_M_walks rfl ⟨by decide, rfl⟩ rfl rfl rfl (sp_M_walks G 13 hv).1 (sp_M_walks G 13 hv).2) (fun M2 => ?_)
      refine im_iincL 42 72 (fun x8 => [some (.ref p0), none, some (.int p2), some (.int p3), some (.int p4), some (.int x8)]) rfl rfl rfl rfl (fun _ => rfl) (fun x8 => ?_)
      refine im_goto 43 75 48 rfl (by decide) ?_
      exact im_less _ (by simp [lv_le]) (ih x8 M2)

set_option maxRecDepth 100000 in
set_option maxHeartbeats 4000000 in
theorem ip_M_reachesStart (G : gl_T) (t : Nat) (a1 : Int32) (a2 : Int32) (M : mm_T) : im_I mi_M_reachesStart 20 466 G M sw_i (ff_M_reachesStart t a1 a2 M) 0 [some (.ref t), some (.int a1), some (.int a2), none, none, none] [] M := by
  unfold ff_M_reachesStart
  refine im_gd (fun hg => ?_)
  refine im_aload_n 0 0 rfl rfl ?_
  refine im_iload_n 1 1 rfl rfl ?_
  refine im_ci (S := []) (fun _ hv => cpV (fr' := 5) (lo' := 107) (i := 2) (As := [.int a1]) (S := []) (a := t) (c := 11) rfl lk_M_121 mw_M_blockAt mv_M_blockAt rfl ⟨by decide, rfl⟩ rfl rfl rfl (gd_some hv).1 (sp_M_blockAt G hv)) (fun x1 => ?_)
  refine im_istore_n 3 5 [some (.ref t), some (.int a1), some (.int a2), some (.int x1), none, none] rfl rfl rfl ?_
  refine im_aload_n 4 6 rfl rfl ?_
  refine im_iload_n 5 7 rfl rfl ?_
  refine im_iconst 6 8 rfl rfl ?_
  refine im_ci (S := []) (fun _ hv => cpV (fr' := 2) (lo' := 41) (i := 7) (As := [.int a1, .int (1 : Int32)]) (S := []) (a := t) (c := 11) rfl lk_M_96 mw_M_it mv_M_it rfl ⟨by decide, rfl⟩ rfl rfl rfl (gd_some hv).1 (sp_M_it G hv)) (fun x2 => ?_)
  refine im_istore 8 12 [some (.ref t), some (.int a1), some (.int a2), some (.int x1), some (.int x2), none] rfl rfl rfl ?_
  refine im_aload_n 9 14 rfl rfl ?_
  refine im_iload_n 10 15 rfl rfl ?_
  refine im_ci (S := []) (fun _ hv => cpV (fr' := 3) (lo' := 63) (i := 11) (As := [.int a1]) (S := []) (a := t) (c := 11) rfl lk_M_99 mw_M_isDefinition mv_M_isDefinition rfl ⟨by decide, rfl⟩ rfl rfl rfl (gd_some hv).1 (sp_M_isDefinition G hv)) (fun x3 => ?_)
  refine im_if_eq 12 19 39 rfl (by decide) ?_ ?_
  · refine im_iconst 23 39 rfl rfl ?_
    exact im_end rfl (wp_zreturn 24 40 (ty := .boolean) rfl (by first | exact nz_0 | exact nz_1) rfl)
  · refine im_aload_n 13 22 rfl rfl ?_
    refine im_iload_n 14 23 rfl rfl ?_
    refine im_iconst 15 24 rfl rfl ?_
    refine im_iadd 16 25 rfl ?_
    refine im_aload_n 17 26 rfl rfl ?_
    refine im_iload_n 18 27 rfl rfl ?_
    refine im_ci (S := [.int (a1 + (1 : Int32)), .ref t]) (fun _ hv => cpV (fr' := 4) (lo' := 86) (i := 19) (As := [.int x1]) (S := [.int (a1 + (1 : Int32)), .ref t]) (a := t) (c := 11) rfl lk_M_87 mw_M_endOf mv_M_endOf rfl ⟨by decide, rfl⟩ rfl rfl rfl (gd_some hv).1 (sp_M_endOf G hv)) (fun x4 => ?_)
    refine im_iload 20 31 rfl rfl ?_
    refine im_ci (S := []) (fun _ hv => cpV (fr' := 5) (lo' := 106) (i := 21) (As := [.int (a1 + (1 : Int32)), .int x4, .int x2]) (S := []) (a := t) (c := 11) rfl lk_M_107 mw_M_definesWithin mv_M_definesWithin rfl ⟨by decide, rfl⟩ rfl rfl rfl (gd_some hv).1 (sp_M_definesWithin G hv)) (fun x5 => ?_)
    refine im_if_eq 22 36 41 rfl (by decide) ?_ ?_
    · refine im_aload_n 25 41 rfl rfl ?_
      refine im_cWv (S := []) (fun _ hv => cpV (fr' := 1) (lo' := 20) (i := 26) (As := []) (S := []) (a := t) (c := 11) rfl lk_M_114 mw_M_forgets mv_M_forgets rfl ⟨by decide, rfl⟩ rfl rfl rfl (gd_some hv).1 (sp_M_forgets G hv)) (fun M1 => ?_)
      refine im_iconst 27 45 rfl rfl ?_
      refine im_istore 28 46 [some (.ref t), some (.int a1), some (.int a2), some (.int x1), some (.int x2), some (.int (0 : Int32))] rfl rfl rfl ?_
      refine im_less [some (.ref t), none, some (.int a2), some (.int x1), some (.int x2), some (.int (0 : Int32))] (by simp [lv_le]) ?_
      refine li_M_reachesStart_48 G M _ t a2 x1 x2 ?_ fu_L (0 : Int32) M1
      · intro M3
        show im_I mi_M_reachesStart 20 466 G M sw_i (_) 78 [some (.ref t), none, some (.int a2), none, none, none] [] M3
        refine im_aload_n 44 78 rfl rfl ?_
        refine im_getR 45 79 rfl fd_M_17 (by decide +kernel) (fun x9 => ?_)
        refine im_iload_n 46 82 rfl rfl ?_
        refine im_baload 47 83 rfl (fun x10 => ?_)
        exact im_endZ (fun _ => rfl) (fun hn => wp_zreturn 48 84 (ty := .boolean) rfl hn rfl)
    · refine im_iconst 23 39 rfl rfl ?_
      exact im_end rfl (wp_zreturn 24 40 (ty := .boolean) rfl (by first | exact nz_0 | exact nz_1) rfl)

theorem sp_M_reachesStart (G : gl_T) {t : Nat} {a1 : Int32} {a2 : Int32} {M : mm_T} {y : Int32 × mm_T} (h : ff_M_reachesStart t a1 a2 M = some y) : sp_S mi_M_reachesStart 20 466 G [.ref t, .int a1, .int a2] M (sw_i y).1 (sw_i y).2 := sp_of mo_M_reachesStart mw_M_reachesStart (Or.inl (by decide +kernel)) rfl rfl (Or.inl rfl) (ip_M_reachesStart G t a1 a2 M y h)

set_option maxRecDepth 100000 in
set_option maxHeartbeats 4000000 in
theorem ip_M_reachesPlace (G : gl_T) (t : Nat) (a1 : Int32) (a2 : Int32) (a3 : Int32) (M : mm_T) : im_I mi_M_reachesPlace 21 491 G M sw_i (ff_M_reachesPlace t a1 a2 a3 M) 0 [some (.ref t), some (.int a1), some (.int a2), some (.int a3), none] [] M := by
  unfold ff_M_reachesPlace
  refine im_gd (fun hg => ?_)
  refine im_aload_n 0 0 rfl rfl ?_
  refine im_iload_n 1 1 rfl rfl ?_
  refine im_iconst 2 2 rfl rfl ?_
  refine im_ci (S := []) (fun _ hv => cpV (fr' := 2) (lo' := 41) (i := 3) (As := [.int a1, .int (1 : Int32)]) (S := []) (a := t) (c := 11) rfl lk_M_96 mw_M_it mv_M_it rfl ⟨by decide, rfl⟩ rfl rfl rfl (gd_some hv).1 (sp_M_it G hv)) (fun x1 => ?_)
  refine im_istore 4 6 [some (.ref t), some (.int a1), some (.int a2), some (.int a3), some (.int x1)] rfl rfl rfl ?_
  refine im_aload_n 5 8 rfl rfl ?_
  refine im_iload_n 6 9 rfl rfl ?_
  refine im_ci (S := []) (fun _ hv => cpV (fr' := 3) (lo' := 63) (i := 7) (As := [.int a1]) (S := []) (a := t) (c := 11) rfl lk_M_99 mw_M_isDefinition mv_M_isDefinition rfl ⟨by decide, rfl⟩ rfl rfl rfl (gd_some hv).1 (sp_M_isDefinition G hv)) (fun x2 => ?_)
  refine im_if_ne 8 13 18 rfl (by decide) ?_ ?_
  · refine im_iload_n 11 18 rfl rfl ?_
    refine im_aload_n 12 19 rfl rfl ?_
    refine im_iload_n 13 20 rfl rfl ?_
    refine im_ci (S := [.int a1]) (fun _ hv => cpV (fr' := 3) (lo' := 63) (i := 14) (As := [.int a2]) (S := [.int a1]) (a := t) (c := 11) rfl lk_M_84 mw_M_firstOf mv_M_firstOf rfl ⟨by decide, rfl⟩ rfl rfl rfl (gd_some hv).1 (sp_M_firstOf G hv)) (fun x3 => ?_)
    refine im_iload_n 15 24 rfl rfl ?_
    refine im_iconst 16 25 rfl rfl ?_
    refine im_isub 17 26 rfl ?_
    refine im_ci (S := []) (fun _ hv => cpS (fr' := 1) (lo' := 20) (i := 18) (As := [.int a1, .int x3, .int (a3 - (1 : Int32))]) (S := []) rfl lk_M_124 mw_M_in mv_M_in rfl rfl rfl rfl (sp_M_in G hv)) (fun x4 => ?_)
    refine im_jp (fun j48 => im_I mi_M_reachesPlace 21 491 G M sw_i (j48) 48 [some (.ref t), some (.int a1), some (.int a2), some (.int a3), some (.int x1)] [] M) ?_ (fun j48 hj48 => ?_)
    · show im_I mi_M_reachesPlace 21 491 G M sw_i (_) 48 [some (.ref t), some (.int a1), some (.int a2), some (.int a3), some (.int x1)] [] M
      refine im_aload_n 30 48 rfl rfl ?_
      refine im_aload_n 31 49 rfl rfl ?_
      refine im_iload_n 32 50 rfl rfl ?_
      refine im_ci (S := [.ref t]) (fun _ hv => cpV (fr' := 3) (lo' := 63) (i := 33) (As := [.int a2]) (S := [.ref t]) (a := t) (c := 11) rfl lk_M_84 mw_M_firstOf mv_M_firstOf rfl ⟨by decide, rfl⟩ rfl rfl rfl (gd_some hv).1 (sp_M_firstOf G hv)) (fun x5 => ?_)
      refine im_iload_n 34 54 rfl rfl ?_
      refine im_iload 35 55 rfl rfl ?_
      refine im_ci (S := []) (fun _ hv => cpV (fr' := 5) (lo' := 106) (i := 36) (As := [.int x5, .int a3, .int x1]) (S := []) (a := t) (c := 11) rfl lk_M_107 mw_M_definesWithin mv_M_definesWithin rfl ⟨by decide, rfl⟩ rfl rfl rfl (gd_some hv).1 (sp_M_definesWithin G hv)) (fun x6 => ?_)
      refine im_if_ne 37 60 76 rfl (by decide) ?_ ?_
      · refine im_iconst 45 76 rfl rfl ?_
        exact im_end rfl (wp_zreturn 46 77 (ty := .boolean) rfl (by first | exact nz_0 | exact nz_1) rfl)
      · refine im_aload_n 38 63 rfl rfl ?_
        refine im_iload_n 39 64 rfl rfl ?_
        refine im_iload_n 40 65 rfl rfl ?_
        refine im_cWi (S := []) (fun _ _ hv => cpV (fr' := 20) (lo' := 466) (i := 41) (As := [.int a1, .int a2]) (S := []) (a := t) (c := 11) rfl lk_M_127 mw_M_reachesStart mv_M_reachesStart rfl ⟨by decide, rfl⟩ rfl rfl rfl (gd_some hv).1 (sp_M_reachesStart G hv)) (fun x7 M1 => ?_)
        refine im_if_eq 42 69 76 rfl (by decide) ?_ ?_
        · refine im_iconst 45 76 rfl rfl ?_
          exact im_end rfl (wp_zreturn 46 77 (ty := .boolean) rfl (by first | exact nz_0 | exact nz_1) rfl)
        · refine im_iconst 43 72 rfl rfl ?_
          refine im_goto 44 73 77 rfl (by decide) ?_
          exact im_end rfl (wp_zreturn 46 77 (ty := .boolean) rfl (by first | exact nz_0 | exact nz_1) rfl)
    refine im_if_eq 19 30 48 rfl (by decide) ?_ ?_
    · exact im_less _ (by simp [lv_le]) (hj48)
    · refine im_aload_n 20 33 rfl rfl ?_
      refine im_iload_n 21 34 rfl rfl ?_
      refine im_iconst 22 35 rfl rfl ?_
      refine im_iadd 23 36 rfl ?_
      refine im_iload_n 24 37 rfl rfl ?_
      refine im_iload 25 38 rfl rfl ?_
      refine im_ci (S := []) (fun _ hv => cpV (fr' := 5) (lo' := 106) (i := 26) (As := [.int (a1 + (1 : Int32)), .int a3, .int x1]) (S := []) (a := t) (c := 11) rfl lk_M_107 mw_M_definesWithin mv_M_definesWithin rfl ⟨by decide, rfl⟩ rfl rfl rfl (gd_some hv).1 (sp_M_definesWithin G hv)) (fun x8 => ?_)
      refine im_if_ne 27 43 48 rfl (by decide) ?_ ?_
      · exact im_less _ (by simp [lv_le]) (hj48)
      · refine im_iconst 28 46 rfl rfl ?_
        exact im_end rfl (wp_zreturn 29 47 (ty := .boolean) rfl (by first | exact nz_0 | exact nz_1) rfl)
  · refine im_iconst 9 16 rfl rfl ?_
    exact im_end rfl (wp_zreturn 10 17 (ty := .boolean) rfl (by first | exact nz_0 | exact nz_1) rfl)

theorem sp_M_reachesPlace (G : gl_T) {t : Nat} {a1 : Int32} {a2 : Int32} {a3 : Int32} {M : mm_T} {y : Int32 × mm_T} (h : ff_M_reachesPlace t a1 a2 a3 M = some y) : sp_S mi_M_reachesPlace 21 491 G [.ref t, .int a1, .int a2, .int a3] M (sw_i y).1 (sw_i y).2 := sp_of mo_M_reachesPlace mw_M_reachesPlace (Or.inl (by decide +kernel)) rfl rfl (Or.inl rfl) (ip_M_reachesPlace G t a1 a2 a3 M y h)

set_option maxRecDepth 100000 in
set_option maxHeartbeats 4000000 in
theorem ip_M_isFirstAt (G : gl_T) (t : Nat) (a1 : Int32) (a2 : Int32) (M : mm_T) : im_I mi_M_isFirstAt 20 466 G M sw_i (ff_M_isFirstAt t a1 a2 M) 0 [some (.ref t), some (.int a1), some (.int a2)] [] M := by
  unfold ff_M_isFirstAt
  refine im_gd (fun hg => ?_)
  refine im_aload_n 0 0 rfl rfl ?_
  refine im_cWv (S := []) (fun _ hv => cpV (fr' := 1) (lo' := 20) (i := 1) (As := []) (S := []) (a := t) (c := 11) rfl lk_M_114 mw_M_forgets mv_M_forgets rfl ⟨by decide, rfl⟩ rfl rfl rfl (gd_some hv).1 (sp_M_forgets G hv)) (fun M1 => ?_)
  refine im_aload_n 2 4 rfl rfl ?_
  refine im_iconst 3 5 rfl rfl ?_
  refine im_iload_n 4 6 rfl rfl ?_
  refine im_iconst 5 7 rfl rfl ?_
  refine im_cWv (S := []) (fun _ hv => cpV (fr' := (6 + 13)) (lo' := (130 + 13 * 24)) (i := 6) (As := [.int (0 : Int32), .int a2, .int (-1 : Int32)]) (S := []) (a := t) (c := 11) rfl lk_M_111 mw_M_walks mv_M_walks rfl ⟨by decide, rfl⟩ rfl rfl rfl (sp_M_walks G 13 hv).1 (sp_M_walks G 13 hv).2) (fun M2 => ?_)
  refine im_aload_n 7 11 rfl rfl ?_
  refine im_getR 8 12 rfl fd_M_17 (by decide +kernel) (fun x1 => ?_)
  refine im_iload_n 9 15 rfl rfl ?_
  refine im_baload 10 16 rfl (fun x2 => ?_)
  exact im_endZ (fun _ => rfl) (fun hn => wp_zreturn 11 17 (ty := .boolean) rfl hn rfl)

theorem sp_M_isFirstAt (G : gl_T) {t : Nat} {a1 : Int32} {a2 : Int32} {M : mm_T} {y : Int32 × mm_T} (h : ff_M_isFirstAt t a1 a2 M = some y) : sp_S mi_M_isFirstAt 20 466 G [.ref t, .int a1, .int a2] M (sw_i y).1 (sw_i y).2 := sp_of mo_M_isFirstAt mw_M_isFirstAt (Or.inl (by decide +kernel)) rfl rfl (Or.inl rfl) (ip_M_isFirstAt G t a1 a2 M y h)

set_option maxRecDepth 100000 in
set_option maxHeartbeats 4000000 in
theorem ip_M_isFirstAtPlace (G : gl_T) (t : Nat) (a1 : Int32) (a2 : Int32) (a3 : Int32) (M : mm_T) : im_I mi_M_isFirstAtPlace 21 488 G M sw_i (ff_M_isFirstAtPlace t a1 a2 a3 M) 0 [some (.ref t), some (.int a1), some (.int a2), some (.int a3)] [] M := by
  unfold ff_M_isFirstAtPlace
  refine im_gd (fun hg => ?_)
  refine im_aload_n 0 0 rfl rfl ?_
  refine im_aload_n 1 1 rfl rfl ?_
  refine im_iload_n 2 2 rfl rfl ?_
  refine im_ci (S := [.ref t]) (fun _ hv => cpV (fr' := 3) (lo' := 63) (i := 3) (As := [.int a1]) (S := [.ref t]) (a := t) (c := 11) rfl lk_M_84 mw_M_firstOf mv_M_firstOf rfl ⟨by decide, rfl⟩ rfl rfl rfl (gd_some hv).1 (sp_M_firstOf G hv)) (fun x1 => ?_)
  refine im_iload_n 4 6 rfl rfl ?_
  refine im_iload_n 5 7 rfl rfl ?_
  refine im_ci (S := []) (fun _ hv => cpV (fr' := 5) (lo' := 106) (i := 6) (As := [.int x1, .int a2, .int a3]) (S := []) (a := t) (c := 11) rfl lk_M_107 mw_M_definesWithin mv_M_definesWithin rfl ⟨by decide, rfl⟩ rfl rfl rfl (gd_some hv).1 (sp_M_definesWithin G hv)) (fun x2 => ?_)
  refine im_if_ne 7 11 27 rfl (by decide) ?_ ?_
  · refine im_iconst 15 27 rfl rfl ?_
    exact im_end rfl (wp_zreturn 16 28 (ty := .boolean) rfl (by first | exact nz_0 | exact nz_1) rfl)
  · refine im_aload_n 8 14 rfl rfl ?_
    refine im_iload_n 9 15 rfl rfl ?_
    refine im_iload_n 10 16 rfl rfl ?_
    refine im_cWi (S := []) (fun _ _ hv => cpV (fr' := 20) (lo' := 466) (i := 11) (As := [.int a1, .int a3]) (S := []) (a := t) (c := 11) rfl lk_M_130 mw_M_isFirstAt mv_M_isFirstAt rfl ⟨by decide, rfl⟩ rfl rfl rfl (gd_some hv).1 (sp_M_isFirstAt G hv)) (fun x3 M1 => ?_)
    refine im_if_eq 12 20 27 rfl (by decide) ?_ ?_
    · refine im_iconst 15 27 rfl rfl ?_
      exact im_end rfl (wp_zreturn 16 28 (ty := .boolean) rfl (by first | exact nz_0 | exact nz_1) rfl)
    · refine im_iconst 13 23 rfl rfl ?_
      refine im_goto 14 24 28 rfl (by decide) ?_
      exact im_end rfl (wp_zreturn 16 28 (ty := .boolean) rfl (by first | exact nz_0 | exact nz_1) rfl)

theorem sp_M_isFirstAtPlace (G : gl_T) {t : Nat} {a1 : Int32} {a2 : Int32} {a3 : Int32} {M : mm_T} {y : Int32 × mm_T} (h : ff_M_isFirstAtPlace t a1 a2 a3 M = some y) : sp_S mi_M_isFirstAtPlace 21 488 G [.ref t, .int a1, .int a2, .int a3] M (sw_i y).1 (sw_i y).2 := sp_of mo_M_isFirstAtPlace mw_M_isFirstAtPlace (Or.inl (by decide +kernel)) rfl rfl (Or.inl rfl) (ip_M_isFirstAtPlace G t a1 a2 a3 M y h)

set_option maxRecDepth 100000 in
set_option maxHeartbeats 4000000 in
theorem li_M_fate_3 (G : gl_T) (k0 : Option (Int32)) (p0 : Nat) (p1 : Int32) (p3 : Int32) (M : mm_T) (hk0 : im_I mi_M_fate 5 107 G M (sh_i M) (k0) 43 [some (.ref p0), some (.int p1), none, some (.int p3), none] [] M) : ∀ (fu : Nat) (q4 : Int32), im_I mi_M_fate 5 107 G M (sh_i M) (lf_M_fate_3 k0 p0 p1 p3 M fu q4) 3 [some (.ref p0), some (.int p1), none, some (.int p3), some (.int q4)] [] M := by
  intro fu
  induction fu with
  | zero => intro _; exact im_none
  | succ fu ih =>
    intro q4
    show im_I mi_M_fate 5 107 G M (sh_i M) (lb_M_fate_3 k0 p0 p1 p3 M (lf_M_fate_3 k0 p0 p1 p3 M fu) q4) 3 [some (.ref p0), some (.int p1), none, some (.int p3), some (.int q4)] [] M
    unfold lb_M_fate_3
    refine im_iload 2 3 rfl rfl ?_
    refine im_aload_n 3 5 rfl rfl ?_
    refine im_iload_n 4 6 rfl rfl ?_
    refine im_ci (S := [.int q4]) (fun _ hv => cpV (fr' := 4) (lo' := 86) (i := 5) (As := [.int p1]) (S := [.int q4]) (a := p0) (c := 11) rfl lk_M_87 mw_M_endOf mv_M_endOf rfl ⟨by decide, rfl⟩ rfl rfl rfl (gd_some hv).1 (sp_M_endOf G hv)) (fun x1 => ?_)
    refine im_ic_ge 6 10 43 rfl (by decide) ?_ ?_
    · exact im_less _ (by simp [lv_le]) (hk0)
    · refine im_aload_n 7 13 rfl rfl ?_
      refine im_iload 8 14 rfl rfl ?_
      refine im_iload_n 9 16 rfl rfl ?_
      refine im_ci (S := []) (fun _ hv => cpV (fr' := 3) (lo' := 63) (i := 10) (As := [.int q4, .int p3]) (S := []) (a := p0) (c := 11) rfl lk_M_133 mw_M_uses mv_M_uses rfl ⟨by decide, rfl⟩ rfl rfl rfl (gd_some hv).1 (sp_M_uses G hv)) (fun x2 => ?_)
      refine im_if_eq 11 20 25 rfl (by decide) ?_ ?_
      · refine im_aload_n 14 25 rfl rfl ?_
        refine im_iload 15 26 rfl rfl ?_
        refine im_iload_n 16 28 rfl rfl ?_
        refine im_ci (S := []) (fun _ hv => cpV (fr' := 4) (lo' := 84) (i := 17) (As := [.int q4, .int p3]) (S := []) (a := p0) (c := 11) rfl lk_M_103 mw_M_defines mv_M_defines rfl ⟨by decide, rfl⟩ rfl rfl rfl (gd_some hv).1 (sp_M_defines G hv)) (fun x3 => ?_)
        refine im_if_eq 18 32 37 rfl (by decide) ?_ ?_
        · refine im_iincL 21 37 (fun x4 => [some (.ref p0), some (.int p1), none, some (.int p3), some (.int x4)]) rfl rfl rfl rfl (fun _ => rfl) (fun x4 => ?_)
          refine im_goto 22 40 3 rfl (by decide) ?_
          exact im_less _ (by simp [lv_le]) (ih x4)
        · refine im_iconst 19 35 rfl rfl ?_
          exact im_end rfl (wp_ireturn 20 36 rfl rfl)
      · refine im_iconst 12 23 rfl rfl ?_
        exact im_end rfl (wp_ireturn 13 24 rfl rfl)

set_option maxRecDepth 100000 in
set_option maxHeartbeats 4000000 in
theorem ip_M_fate (G : gl_T) (t : Nat) (a1 : Int32) (a2 : Int32) (a3 : Int32) (M : mm_T) : im_I mi_M_fate 5 107 G M (sh_i M) (ff_M_fate t a1 a2 a3 M) 0 [some (.ref t), some (.int a1), some (.int a2), some (.int a3), none] [] M := by
  unfold ff_M_fate
  refine im_gd (fun hg => ?_)
  refine im_iload_n 0 0 rfl rfl ?_
  refine im_istore 1 1 [some (.ref t), some (.int a1), some (.int a2), some (.int a3), some (.int a2)] rfl rfl rfl ?_
  refine im_less [some (.ref t), some (.int a1), none, some (.int a3), some (.int a2)] (by simp [lv_le]) ?_
  refine li_M_fate_3 G _ t a1 a3 M ?_ fu_L a2
  · show im_I mi_M_fate 5 107 G M (sh_i M) (_) 43 [some (.ref t), some (.int a1), none, some (.int a3), none] [] M
    refine im_aload_n 23 43 rfl rfl ?_
    refine im_iload_n 24 44 rfl rfl ?_
    refine im_iload_n 25 45 rfl rfl ?_
    refine im_ci (S := []) (fun _ hv => cpV (fr' := 3) (lo' := 63) (i := 26) (As := [.int a1, .int a3]) (S := []) (a := t) (c := 11) rfl lk_M_136 mw_M_usesAtExit mv_M_usesAtExit rfl ⟨by decide, rfl⟩ rfl rfl rfl (gd_some hv).1 (sp_M_usesAtExit G hv)) (fun x5 => ?_)
    refine im_if_eq 27 49 56 rfl (by decide) ?_ ?_
    · refine im_iconst 30 56 rfl rfl ?_
      exact im_end rfl (wp_ireturn 31 57 rfl rfl)
    · refine im_iconst 28 52 rfl rfl ?_
      refine im_goto 29 53 57 rfl (by decide) ?_
      exact im_end rfl (wp_ireturn 31 57 rfl rfl)

theorem sp_M_fate (G : gl_T) {t : Nat} {a1 : Int32} {a2 : Int32} {a3 : Int32} {M : mm_T} {y : Int32} (h : ff_M_fate t a1 a2 a3 M = some y) : sp_S mi_M_fate 5 107 G [.ref t, .int a1, .int a2, .int a3] M ((sh_i M) y).1 ((sh_i M) y).2 := sp_of mo_M_fate mw_M_fate (Or.inl (by decide +kernel)) rfl rfl (Or.inl rfl) (ip_M_fate G t a1 a2 a3 M y h)

set_option maxRecDepth 100000 in
set_option maxHeartbeats 4000000 in
theorem li_M_isUsedFrom_49 (G : gl_T) (M0 : mm_T) (rcf : Nat → Int32 → Int32 → mm_T → Option (Int32 × mm_T)) {d : Nat} (hrc : ∀ {t_ a1_ a2_} {Mr : mm_T} {y : Int32 × mm_T}, rcf t_ a1_ a2_ Mr = some y → (mm_k Mr t_).1 = 11 ∧ sp_S mi_M_isUsedFrom (6 + d) (131 + d * 24) G [.ref t_, .int a1_, .int a2_] Mr (sw_i y).1 (sw_i y).2) (p0 : Nat) (p1 : Int32) (p2 : Int32) : ∀ (fu : Nat) (q4 : Int32) (N : mm_T), im_I mi_M_isUsedFrom (6 + (d + 1)) (131 + (d + 1) * 24) G M0 sw_i (lf_M_isUsedFrom_49 rcf p0 p1 p2 fu q4 N) 49 [some (.ref p0), some (.int p1), some (.int p2), none, some (.int q4)] [] N := by
  intro fu
  induction fu with
  | zero => intro _ _; exact im_none
  | succ fu ih =>
    intro q4 N
    show im_I mi_M_isUsedFrom (6 + (d + 1)) (131 + (d + 1) * 24) G M0 sw_i (lb_M_isUsedFrom_49 rcf p0 p1 p2 (lf_M_isUsedFrom_49 rcf p0 p1 p2 fu) q4 N) 49 [some (.ref p0), some (.int p1), some (.int p2), none, some (.int q4)] [] N
    unfold lb_M_isUsedFrom_49
    refine im_iload 32 49 rfl rfl ?_
    refine im_aload_n 33 51 rfl rfl ?_
    refine im_iload_n 34 52 rfl rfl ?_
    refine im_ci (S := [.int q4]) (fun _ hv => cpV (fr' := 3) (lo' := 63) (i := 35) (As := [.int p1]) (S := [.int q4]) (a := p0) (c := 11) rfl lk_M_90 mw_M_ways mv_M_ways rfl ⟨by decide, rfl⟩ rfl rfl (cn_mk (by omega) (by show 8 + (2 + 11) + _ ≤ _; omega) rfl) (gd_some hv).1 (sp_M_ways G hv)) (fun x6 => ?_)
    refine im_ic_ge 36 56 82 rfl (by decide) ?_ ?_
    · refine im_iconst 49 82 rfl rfl ?_
      exact im_end rfl (wp_zreturn 50 83 (ty := .boolean) rfl (by first | exact nz_0 | exact nz_1) rfl)
    · refine im_aload_n 37 59 rfl rfl ?_
      refine im_aload_n 38 60 rfl rfl ?_
      refine im_iload_n 39 61 rfl rfl ?_
      refine im_iload 40 62 rfl rfl ?_
      refine im_ci (S := [.ref p0]) (fun _ hv => cpV (fr' := 3) (lo' := 63) (i := 41) (As := [.int p1, .int q4]) (S := [.ref p0]) (a := p0) (c := 11) rfl lk_M_93 mw_M_way mv_M_way rfl ⟨by decide, rfl⟩ rfl rfl (cn_mk (by omega) (by show 8 + (3 + 11) + _ ≤ _; omega) rfl) (gd_some hv).1 (sp_M_way G hv)) (fun x7 => ?_)
      refine im_iload_n 42 67 rfl rfl ?_
      refine im_cWi (S := []) (fun _ _ hv => cpV (fr' := (6 + d)) (lo' := (131 + d * 24)) (i := 43) (As := [.int x7, .int p2]) (S := []) (a := p0) (c := 11) rfl lk_M_143 mw_M_isUsedFrom mv_M_isUsedFrom rfl ⟨by decide, rfl⟩ rfl rfl (cn_mk (by omega) (by show 8 + (5 + 11) + _ ≤ _; omega) rfl) (hrc hv).1 (hrc hv).2) (fun x8 M2 => ?_)
      refine im_if_eq 44 71 76 rfl (by decide) ?_ ?_
      · refine im_iincL 47 76 (fun x9 => [some (.ref p0), some (.int p1), some (.int p2), none, some (.int x9)]) rfl rfl rfl rfl (fun _ => rfl) (fun x9 => ?_)
        refine im_goto 48 79 49 rfl (by decide) ?_
        exact im_less _ (by simp [lv_le]) (ih x9 M2)
      · refine im_iconst 45 74 rfl rfl ?_
        exact im_end rfl (wp_zreturn 46 75 (ty := .boolean) rfl (by first | exact nz_0 | exact nz_1) rfl)

set_option maxRecDepth 100000 in
set_option maxHeartbeats 4000000 in
theorem ip_M_isUsedFrom (G : gl_T) (rcf : Nat → Int32 → Int32 → mm_T → Option (Int32 × mm_T)) {d : Nat} (hrc : ∀ {t_ a1_ a2_} {Mr : mm_T} {y : Int32 × mm_T}, rcf t_ a1_ a2_ Mr = some y → (mm_k Mr t_).1 = 11 ∧ sp_S mi_M_isUsedFrom (6 + d) (131 + d * 24) G [.ref t_, .int a1_, .int a2_] Mr (sw_i y).1 (sw_i y).2) (t : Nat) (a1 : Int32) (a2 : Int32) (M : mm_T) : im_I mi_M_isUsedFrom (6 + (d + 1)) (131 + (d + 1) * 24) G M sw_i (fb_M_isUsedFrom rcf t a1 a2 M) 0 [some (.ref t), some (.int a1), some (.int a2), none, none] [] M := by
  unfold fb_M_isUsedFrom
  refine im_gd (fun hg => ?_)
  refine im_aload_n 0 0 rfl rfl ?_
  refine im_getR 1 1 rfl fd_M_17 (by decide +kernel) (fun x1 => ?_)
  refine im_iload_n 2 4 rfl rfl ?_
  refine im_baload 3 5 rfl (fun x2 => ?_)
  refine im_if_eq 4 6 11 rfl (by decide) ?_ ?_
  · refine im_aload_n 7 11 rfl rfl ?_
    refine im_getR 8 12 rfl fd_M_17 (by decide +kernel) (fun x3 => ?_)
    refine im_iload_n 9 15 rfl rfl ?_
    refine im_iconst 10 16 rfl rfl ?_
    refine im_bastore 11 17 rfl (fun M1 => ?_)
    refine im_aload_n 12 18 rfl rfl ?_
    refine im_iload_n 13 19 rfl rfl ?_
    refine im_aload_n 14 20 rfl rfl ?_
    refine im_iload_n 15 21 rfl rfl ?_
    refine im_ci (S := [.int a1, .ref t]) (fun _ hv => cpV (fr' := 3) (lo' := 63) (i := 16) (As := [.int a1]) (S := [.int a1, .ref t]) (a := t) (c := 11) rfl lk_M_84 mw_M_firstOf mv_M_firstOf rfl ⟨by decide, rfl⟩ rfl rfl (cn_mk (by omega) (by show 8 + (4 + 11) + _ ≤ _; omega) rfl) (gd_some hv).1 (sp_M_firstOf G hv)) (fun x4 => ?_)
    refine im_iload_n 17 25 rfl rfl ?_
    refine im_ci (S := []) (fun _ hv => cpV (fr' := 5) (lo' := 107) (i := 18) (As := [.int a1, .int x4, .int a2]) (S := []) (a := t) (c := 11) rfl lk_M_139 mw_M_fate mv_M_fate rfl ⟨by decide, rfl⟩ rfl rfl (cn_mk (by omega) (by show 8 + (5 + 11) + _ ≤ _; omega) rfl) (gd_some hv).1 (sp_M_fate G hv)) (fun x5 => ?_)
    refine im_istore_n 19 29 [some (.ref t), some (.int a1), some (.int a2), some (.int x5), none] rfl rfl rfl ?_
    refine im_iload_n 20 30 rfl rfl ?_
    refine im_iconst 21 31 rfl rfl ?_
    refine im_ic_eq 22 32 46 rfl (by decide) ?_ ?_
    · refine im_iconst 30 46 rfl rfl ?_
      refine im_istore 31 47 [some (.ref t), some (.int a1), some (.int a2), some (.int x5), some (.int (0 : Int32))] rfl rfl rfl ?_
      refine im_less [some (.ref t), some (.int a1), some (.int a2), none, some (.int (0 : Int32))] (by simp [lv_le]) ?_
      exact li_M_isUsedFrom_49 G M rcf hrc t a1 a2 fu_L (0 : Int32) M1
    · refine im_iload_n 23 35 rfl rfl ?_
      refine im_iconst 24 36 rfl rfl ?_
      refine im_ic_ne 25 37 44 rfl (by decide) ?_ ?_
      · refine im_iconst 28 44 rfl rfl ?_
        exact im_end rfl (wp_zreturn 29 45 (ty := .boolean) rfl (by first | exact nz_0 | exact nz_1) rfl)
      · refine im_iconst 26 40 rfl rfl ?_
        refine im_goto 27 41 45 rfl (by decide) ?_
        exact im_end rfl (wp_zreturn 29 45 (ty := .boolean) rfl (by first | exact nz_0 | exact nz_1) rfl)
  · refine im_iconst 5 9 rfl rfl ?_
    exact im_end rfl (wp_zreturn 6 10 (ty := .boolean) rfl (by first | exact nz_0 | exact nz_1) rfl)

theorem sp_M_isUsedFrom (G : gl_T) : ∀ (d : Nat) {t : Nat} {a1 : Int32} {a2 : Int32} {M : mm_T} {y : Int32 × mm_T}, ff_M_isUsedFrom d t a1 a2 M = some y → (mm_k M t).1 = 11 ∧ sp_S mi_M_isUsedFrom (6 + d) (131 + d * 24) G [.ref t, .int a1, .int a2] M (sw_i y).1 (sw_i y).2 := by
  intro d
  induction d with
  | zero => intro _ _ _ _ _ h; exact nomatch h
  | succ d ih =>
    intro t a1 a2 M y h
    exact ⟨(gd_some h).1, sp_of mo_M_isUsedFrom mw_M_isUsedFrom (Or.inl (by decide +kernel)) rfl rfl (Or.inl rfl) (ip_M_isUsedFrom G (ff_M_isUsedFrom d) ih t a1 a2 M y h)⟩

set_option maxRecDepth 100000 in
set_option maxHeartbeats 4000000 in
theorem li_M_isLiveBehind_6 (G : gl_T) (M0 : mm_T) (p0 : Nat) (p1 : Int32) (p2 : Int32) : ∀ (fu : Nat) (q3 : Int32) (N : mm_T), im_I mi_M_isLiveBehind 20 467 G M0 sw_i (lf_M_isLiveBehind_6 p0 p1 p2 fu q3 N) 6 [some (.ref p0), some (.int p1), some (.int p2), some (.int q3)] [] N := by
  intro fu
  induction fu with
  | zero => intro _ _; exact im_none
  | succ fu ih =>
    intro q3 N
    show im_I mi_M_isLiveBehind 20 467 G M0 sw_i (lb_M_isLiveBehind_6 p0 p1 p2 (lf_M_isLiveBehind_6 p0 p1 p2 fu) q3 N) 6 [some (.ref p0), some (.int p1), some (.int p2), some (.int q3)] [] N
    unfold lb_M_isLiveBehind_6
    refine im_iload_n 4 6 rfl rfl ?_
    refine im_aload_n 5 7 rfl rfl ?_
    refine im_iload_n 6 8 rfl rfl ?_
    refine im_ci (S := [.int q3]) (fun _ hv => cpV (fr' := 3) (lo' := 63) (i := 7) (As := [.int p1]) (S := [.int q3]) (a := p0) (c := 11) rfl lk_M_90 mw_M_ways mv_M_ways rfl ⟨by decide, rfl⟩ rfl rfl rfl (gd_some hv).1 (sp_M_ways G hv)) (fun x1 => ?_)
    refine im_ic_ge 8 12 37 rfl (by decide) ?_ ?_
    · refine im_iconst 21 37 rfl rfl ?_
      exact im_end rfl (wp_zreturn 22 38 (ty := .boolean) rfl (by first | exact nz_0 | exact nz_1) rfl)
    · refine im_aload_n 9 15 rfl rfl ?_
      refine im_aload_n 10 16 rfl rfl ?_
      refine im_iload_n 11 17 rfl rfl ?_
      refine im_iload_n 12 18 rfl rfl ?_
      refine im_ci (S := [.ref p0]) (fun _ hv => cpV (fr' := 3) (lo' := 63) (i := 13) (As := [.int p1, .int q3]) (S := [.ref p0]) (a := p0) (c := 11) rfl lk_M_93 mw_M_way mv_M_way rfl ⟨by decide, rfl⟩ rfl rfl rfl (gd_some hv).1 (sp_M_way G hv)) (fun x2 => ?_)
      refine im_iload_n 14 22 rfl rfl ?_
      refine im_cWi (S := []) (fun _ _ hv => cpV (fr' := (6 + 13)) (lo' := (131 + 13 * 24)) (i := 15) (As := [.int x2, .int p2]) (S := []) (a := p0) (c := 11) rfl lk_M_143 mw_M_isUsedFrom mv_M_isUsedFrom rfl ⟨by decide, rfl⟩ rfl rfl rfl (sp_M_isUsedFrom G 13 hv).1 (sp_M_isUsedFrom G 13 hv).2) (fun x3 M2 => ?_)
      refine im_if_eq 16 26 31 rfl (by decide) ?_ ?_
      · refine im_iincL 19 31 (fun x4 => [some (.ref p0), some (.int p1), some (.int p2), some (.int x4)]) rfl rfl rfl rfl (fun _ => rfl) (fun x4 => ?_)
        refine im_goto 20 34 6 rfl (by decide) ?_
        exact im_less _ (by simp [lv_le]) (ih x4 M2)
      · refine im_iconst 17 29 rfl rfl ?_
        exact im_end rfl (wp_zreturn 18 30 (ty := .boolean) rfl (by first | exact nz_0 | exact nz_1) rfl)

set_option maxRecDepth 100000 in
set_option maxHeartbeats 4000000 in
theorem ip_M_isLiveBehind (G : gl_T) (t : Nat) (a1 : Int32) (a2 : Int32) (M : mm_T) : im_I mi_M_isLiveBehind 20 467 G M sw_i (ff_M_isLiveBehind t a1 a2 M) 0 [some (.ref t), some (.int a1), some (.int a2), none] [] M := by
  unfold ff_M_isLiveBehind
  refine im_gd (fun hg => ?_)
  refine im_aload_n 0 0 rfl rfl ?_
  refine im_cWv (S := []) (fun _ hv => cpV (fr' := 1) (lo' := 20) (i := 1) (As := []) (S := []) (a := t) (c := 11) rfl lk_M_114 mw_M_forgets mv_M_forgets rfl ⟨by decide, rfl⟩ rfl rfl rfl (gd_some hv).1 (sp_M_forgets G hv)) (fun M1 => ?_)
  refine im_iconst 2 4 rfl rfl ?_
  refine im_istore_n 3 5 [some (.ref t), some (.int a1), some (.int a2), some (.int (0 : Int32))] rfl rfl rfl ?_
  refine im_less [some (.ref t), some (.int a1), some (.int a2), some (.int (0 : Int32))] (by simp [lv_le]) ?_
  exact li_M_isLiveBehind_6 G M t a1 a2 fu_L (0 : Int32) M1

theorem sp_M_isLiveBehind (G : gl_T) {t : Nat} {a1 : Int32} {a2 : Int32} {M : mm_T} {y : Int32 × mm_T} (h : ff_M_isLiveBehind t a1 a2 M = some y) : sp_S mi_M_isLiveBehind 20 467 G [.ref t, .int a1, .int a2] M (sw_i y).1 (sw_i y).2 := sp_of mo_M_isLiveBehind mw_M_isLiveBehind (Or.inl (by decide +kernel)) rfl rfl (Or.inl rfl) (ip_M_isLiveBehind G t a1 a2 M y h)

set_option maxRecDepth 100000 in
set_option maxHeartbeats 4000000 in
theorem ip_M_isLiveAt (G : gl_T) (t : Nat) (a1 : Int32) (a2 : Int32) (a3 : Int32) (M : mm_T) : im_I mi_M_isLiveAt 21 490 G M sw_i (ff_M_isLiveAt t a1 a2 a3 M) 0 [some (.ref t), some (.int a1), some (.int a2), some (.int a3), none] [] M := by
  unfold ff_M_isLiveAt
  refine im_gd (fun hg => ?_)
  refine im_aload_n 0 0 rfl rfl ?_
  refine im_iload_n 1 1 rfl rfl ?_
  refine im_iload_n 2 2 rfl rfl ?_
  refine im_iload_n 3 3 rfl rfl ?_
  refine im_ci (S := []) (fun _ hv => cpV (fr' := 5) (lo' := 107) (i := 4) (As := [.int a1, .int a2, .int a3]) (S := []) (a := t) (c := 11) rfl lk_M_139 mw_M_fate mv_M_fate rfl ⟨by decide, rfl⟩ rfl rfl rfl (gd_some hv).1 (sp_M_fate G hv)) (fun x1 => ?_)
  refine im_istore 5 7 [some (.ref t), some (.int a1), some (.int a2), some (.int a3), some (.int x1)] rfl rfl rfl ?_
  refine im_iload 6 9 rfl rfl ?_
  refine im_iconst 7 11 rfl rfl ?_
  refine im_ic_ne 8 12 24 rfl (by decide) ?_ ?_
  · refine im_iload 14 24 rfl rfl ?_
    refine im_iconst 15 26 rfl rfl ?_
    refine im_ic_ne 16 27 34 rfl (by decide) ?_ ?_
    · refine im_iconst 19 34 rfl rfl ?_
      exact im_end rfl (wp_zreturn 20 35 (ty := .boolean) rfl (by first | exact nz_0 | exact nz_1) rfl)
    · refine im_iconst 17 30 rfl rfl ?_
      refine im_goto 18 31 35 rfl (by decide) ?_
      exact im_end rfl (wp_zreturn 20 35 (ty := .boolean) rfl (by first | exact nz_0 | exact nz_1) rfl)
  · refine im_aload_n 9 15 rfl rfl ?_
    refine im_iload_n 10 16 rfl rfl ?_
    refine im_iload_n 11 17 rfl rfl ?_
    refine im_cWi (S := []) (fun _ _ hv => cpV (fr' := 20) (lo' := 467) (i := 12) (As := [.int a1, .int a3]) (S := []) (a := t) (c := 11) rfl lk_M_146 mw_M_isLiveBehind mv_M_isLiveBehind rfl ⟨by decide, rfl⟩ rfl rfl rfl (gd_some hv).1 (sp_M_isLiveBehind G hv)) (fun x2 M1 => ?_)
    refine im_goto 13 21 35 rfl (by decide) ?_
    exact im_endZ (fun _ => rfl) (fun hn => wp_zreturn 20 35 (ty := .boolean) rfl hn rfl)

theorem sp_M_isLiveAt (G : gl_T) {t : Nat} {a1 : Int32} {a2 : Int32} {a3 : Int32} {M : mm_T} {y : Int32 × mm_T} (h : ff_M_isLiveAt t a1 a2 a3 M = some y) : sp_S mi_M_isLiveAt 21 490 G [.ref t, .int a1, .int a2, .int a3] M (sw_i y).1 (sw_i y).2 := sp_of mo_M_isLiveAt mw_M_isLiveAt (Or.inl (by decide +kernel)) rfl rfl (Or.inl rfl) (ip_M_isLiveAt G t a1 a2 a3 M y h)

set_option maxRecDepth 100000 in
set_option maxHeartbeats 4000000 in
theorem li_M_liveAt_5 (G : gl_T) (M0 : mm_T) (p0 : Nat) (p1 : Int32) (p2 : Int32) : ∀ (fu : Nat) (q3 : Int32) (q4 : Int32) (N : mm_T), im_I mi_M_liveAt 22 514 G M0 sw_i (lf_M_liveAt_5 p0 p1 p2 fu q3 q4 N) 5 [some (.ref p0), some (.int p1), some (.int p2), some (.int q3), some (.int q4)] [] N := by
  intro fu
  induction fu with
  | zero => intro _ _ _; exact im_none
  | succ fu ih =>
    intro q3 q4 N
    show im_I mi_M_liveAt 22 514 G M0 sw_i (lb_M_liveAt_5 p0 p1 p2 (lf_M_liveAt_5 p0 p1 p2 fu) q3 q4 N) 5 [some (.ref p0), some (.int p1), some (.int p2), some (.int q3), some (.int q4)] [] N
    unfold lb_M_liveAt_5
    refine im_iload 4 5 rfl rfl ?_
    refine im_bipush 5 7 rfl rfl ?_
    refine im_ic_ge 6 9 32 rfl (by decide) ?_ ?_
    · refine im_iload_n 18 32 rfl rfl ?_
      exact im_end rfl (wp_ireturn 19 33 rfl rfl)
    · refine im_iload_n 7 12 rfl rfl ?_
      refine im_aload_n 8 13 rfl rfl ?_
      refine im_iload_n 9 14 rfl rfl ?_
      refine im_iload_n 10 15 rfl rfl ?_
      refine im_iload 11 16 rfl rfl ?_
      refine im_cWi (S := [.int q3]) (fun _ _ hv => cpV (fr' := 21) (lo' := 490) (i := 12) (As := [.int p1, .int p2, .int q4]) (S := [.int q3]) (a := p0) (c := 11) rfl lk_M_149 mw_M_isLiveAt mv_M_isLiveAt rfl ⟨by decide, rfl⟩ rfl rfl rfl (gd_some hv).1 (sp_M_isLiveAt G hv)) (fun x1 M1 => ?_)
      refine im_ci (S := [.int q3]) (fun _ hv => cpS (fr' := 1) (lo' := 20) (i := 13) (As := [.int x1]) (S := [.int q3]) rfl lk_M_117 mw_M_one mv_M_one rfl rfl rfl rfl (sp_M_one G hv)) (fun x2 => ?_)
      refine im_iadd 14 24 rfl ?_
      refine im_letI (fun x3 => ?_)
      refine im_istore_n 15 25 [some (.ref p0), some (.int p1), some (.int p2), some (.int x3), some (.int q4)] rfl rfl rfl ?_
      refine im_iincL 16 26 (fun x4 => [some (.ref p0), some (.int p1), some (.int p2), some (.int x3), some (.int x4)]) rfl rfl rfl rfl (fun _ => rfl) (fun x4 => ?_)
      refine im_goto 17 29 5 rfl (by decide) ?_
      exact im_less _ (by simp [lv_le]) (ih x3 x4 M1)

set_option maxRecDepth 100000 in
set_option maxHeartbeats 4000000 in
theorem ip_M_liveAt (G : gl_T) (t : Nat) (a1 : Int32) (a2 : Int32) (M : mm_T) : im_I mi_M_liveAt 22 514 G M sw_i (ff_M_liveAt t a1 a2 M) 0 [some (.ref t), some (.int a1), some (.int a2), none, none] [] M := by
  unfold ff_M_liveAt
  refine im_gd (fun hg => ?_)
  refine im_iconst 0 0 rfl rfl ?_
  refine im_istore_n 1 1 [some (.ref t), some (.int a1), some (.int a2), some (.int (0 : Int32)), none] rfl rfl rfl ?_
  refine im_iconst 2 2 rfl rfl ?_
  refine im_istore 3 3 [some (.ref t), some (.int a1), some (.int a2), some (.int (0 : Int32)), some (.int (0 : Int32))] rfl rfl rfl ?_
  refine im_less [some (.ref t), some (.int a1), some (.int a2), some (.int (0 : Int32)), some (.int (0 : Int32))] (by simp [lv_le]) ?_
  exact li_M_liveAt_5 G M t a1 a2 fu_L (0 : Int32) (0 : Int32) M

theorem sp_M_liveAt (G : gl_T) {t : Nat} {a1 : Int32} {a2 : Int32} {M : mm_T} {y : Int32 × mm_T} (h : ff_M_liveAt t a1 a2 M = some y) : sp_S mi_M_liveAt 22 514 G [.ref t, .int a1, .int a2] M (sw_i y).1 (sw_i y).2 := sp_of mo_M_liveAt mw_M_liveAt (Or.inl (by decide +kernel)) rfl rfl (Or.inl rfl) (ip_M_liveAt G t a1 a2 M y h)

set_option maxRecDepth 100000 in
set_option maxHeartbeats 4000000 in
theorem ip_M_isDead0 (G : gl_T) (t : Nat) (a1 : Int32) (M : mm_T) : im_I mi_M_isDead0 22 514 G M sw_i (ff_M_isDead0 t a1 M) 0 [some (.ref t), some (.int a1)] [] M := by
  unfold ff_M_isDead0
  refine im_gd (fun hg => ?_)
  refine im_aload_n 0 0 rfl rfl ?_
  refine im_iload_n 1 1 rfl rfl ?_
  refine im_ci (S := []) (fun _ hv => cpV (fr' := 3) (lo' := 63) (i := 2) (As := [.int a1]) (S := []) (a := t) (c := 11) rfl lk_M_99 mw_M_isDefinition mv_M_isDefinition rfl ⟨by decide, rfl⟩ rfl rfl rfl (gd_some hv).1 (sp_M_isDefinition G hv)) (fun x1 => ?_)
  refine im_if_eq 3 5 33 rfl (by decide) ?_ ?_
  · refine im_iconst 19 33 rfl rfl ?_
    exact im_end rfl (wp_zreturn 20 34 (ty := .boolean) rfl (by first | exact nz_0 | exact nz_1) rfl)
  · refine im_aload_n 4 8 rfl rfl ?_
    refine im_aload_n 5 9 rfl rfl ?_
    refine im_iload_n 6 10 rfl rfl ?_
    refine im_ci (S := [.ref t]) (fun _ hv => cpV (fr' := 5) (lo' := 107) (i := 7) (As := [.int a1]) (S := [.ref t]) (a := t) (c := 11) rfl lk_M_121 mw_M_blockAt mv_M_blockAt rfl ⟨by decide, rfl⟩ rfl rfl rfl (gd_some hv).1 (sp_M_blockAt G hv)) (fun x2 => ?_)
    refine im_iload_n 8 14 rfl rfl ?_
    refine im_iconst 9 15 rfl rfl ?_
    refine im_iadd 10 16 rfl ?_
    refine im_aload_n 11 17 rfl rfl ?_
    refine im_iload_n 12 18 rfl rfl ?_
    refine im_iconst 13 19 rfl rfl ?_
    refine im_ci (S := [.int (a1 + (1 : Int32)), .int x2, .ref t]) (fun _ hv => cpV (fr' := 2) (lo' := 41) (i := 14) (As := [.int a1, .int (1 : Int32)]) (S := [.int (a1 + (1 : Int32)), .int x2, .ref t]) (a := t) (c := 11) rfl lk_M_96 mw_M_it mv_M_it rfl ⟨by decide, rfl⟩ rfl rfl rfl (gd_some hv).1 (sp_M_it G hv)) (fun x3 => ?_)
    refine im_cWi (S := []) (fun _ _ hv => cpV (fr' := 21) (lo' := 490) (i := 15) (As := [.int x2, .int (a1 + (1 : Int32)), .int x3]) (S := []) (a := t) (c := 11) rfl lk_M_149 mw_M_isLiveAt mv_M_isLiveAt rfl ⟨by decide, rfl⟩ rfl rfl rfl (gd_some hv).1 (sp_M_isLiveAt G hv)) (fun x4 M1 => ?_)
    refine im_if_ne 16 26 33 rfl (by decide) ?_ ?_
    · refine im_iconst 19 33 rfl rfl ?_
      exact im_end rfl (wp_zreturn 20 34 (ty := .boolean) rfl (by first | exact nz_0 | exact nz_1) rfl)
    · refine im_iconst 17 29 rfl rfl ?_
      refine im_goto 18 30 34 rfl (by decide) ?_
      exact im_end rfl (wp_zreturn 20 34 (ty := .boolean) rfl (by first | exact nz_0 | exact nz_1) rfl)

theorem sp_M_isDead0 (G : gl_T) {t : Nat} {a1 : Int32} {M : mm_T} {y : Int32 × mm_T} (h : ff_M_isDead0 t a1 M = some y) : sp_S mi_M_isDead0 22 514 G [.ref t, .int a1] M (sw_i y).1 (sw_i y).2 := sp_of mo_M_isDead0 mw_M_isDead0 (Or.inl (by decide +kernel)) rfl rfl (Or.inl rfl) (ip_M_isDead0 G t a1 M y h)

set_option maxRecDepth 100000 in
set_option maxHeartbeats 4000000 in
theorem ip_M_isSame (G : gl_T) (t : Nat) (a1 : Int32) (a2 : Int32) (M : mm_T) : im_I mi_M_isSame 3 63 G M (sh_i M) (ff_M_isSame t a1 a2 M) 0 [some (.ref t), some (.int a1), some (.int a2)] [] M := by
  unfold ff_M_isSame
  refine im_gd (fun hg => ?_)
  refine im_aload_n 0 0 rfl rfl ?_
  refine im_iload_n 1 1 rfl rfl ?_
  refine im_iconst 2 2 rfl rfl ?_
  refine im_ci (S := []) (fun _ hv => cpV (fr' := 2) (lo' := 41) (i := 3) (As := [.int a2, .int (0 : Int32)]) (S := []) (a := t) (c := 11) rfl lk_M_96 mw_M_it mv_M_it rfl ⟨by decide, rfl⟩ rfl rfl rfl (gd_some hv).1 (sp_M_it G hv)) (fun x1 => ?_)
  refine im_iconst 4 6 rfl rfl ?_
  refine im_ic_eq 5 7 12 rfl (by decide) ?_ ?_
  · refine im_aload_n 8 12 rfl rfl ?_
    refine im_iload_n 9 13 rfl rfl ?_
    refine im_iconst 10 14 rfl rfl ?_
    refine im_ci (S := []) (fun _ hv => cpV (fr' := 2) (lo' := 41) (i := 11) (As := [.int a1, .int (2 : Int32)]) (S := []) (a := t) (c := 11) rfl lk_M_96 mw_M_it mv_M_it rfl ⟨by decide, rfl⟩ rfl rfl rfl (gd_some hv).1 (sp_M_it G hv)) (fun x2 => ?_)
    refine im_aload_n 12 18 rfl rfl ?_
    refine im_iload_n 13 19 rfl rfl ?_
    refine im_iconst 14 20 rfl rfl ?_
    refine im_ci (S := [.int x2]) (fun _ hv => cpV (fr' := 2) (lo' := 41) (i := 15) (As := [.int a2, .int (2 : Int32)]) (S := [.int x2]) (a := t) (c := 11) rfl lk_M_96 mw_M_it mv_M_it rfl ⟨by decide, rfl⟩ rfl rfl rfl (gd_some hv).1 (sp_M_it G hv)) (fun x3 => ?_)
    refine im_ic_ne 16 24 61 rfl (by decide) ?_ ?_
    · refine im_iconst 37 61 rfl rfl ?_
      exact im_end rfl (wp_zreturn 38 62 (ty := .boolean) rfl (by first | exact nz_0 | exact nz_1) rfl)
    · refine im_aload_n 17 27 rfl rfl ?_
      refine im_iload_n 18 28 rfl rfl ?_
      refine im_iconst 19 29 rfl rfl ?_
      refine im_ci (S := []) (fun _ hv => cpV (fr' := 2) (lo' := 41) (i := 20) (As := [.int a1, .int (3 : Int32)]) (S := []) (a := t) (c := 11) rfl lk_M_96 mw_M_it mv_M_it rfl ⟨by decide, rfl⟩ rfl rfl rfl (gd_some hv).1 (sp_M_it G hv)) (fun x4 => ?_)
      refine im_aload_n 21 33 rfl rfl ?_
      refine im_iload_n 22 34 rfl rfl ?_
      refine im_iconst 23 35 rfl rfl ?_
      refine im_ci (S := [.int x4]) (fun _ hv => cpV (fr' := 2) (lo' := 41) (i := 24) (As := [.int a2, .int (3 : Int32)]) (S := [.int x4]) (a := t) (c := 11) rfl lk_M_96 mw_M_it mv_M_it rfl ⟨by decide, rfl⟩ rfl rfl rfl (gd_some hv).1 (sp_M_it G hv)) (fun x5 => ?_)
      refine im_ic_ne 25 39 61 rfl (by decide) ?_ ?_
      · refine im_iconst 37 61 rfl rfl ?_
        exact im_end rfl (wp_zreturn 38 62 (ty := .boolean) rfl (by first | exact nz_0 | exact nz_1) rfl)
      · refine im_aload_n 26 42 rfl rfl ?_
        refine im_iload_n 27 43 rfl rfl ?_
        refine im_iconst 28 44 rfl rfl ?_
        refine im_ci (S := []) (fun _ hv => cpV (fr' := 2) (lo' := 41) (i := 29) (As := [.int a1, .int (4 : Int32)]) (S := []) (a := t) (c := 11) rfl lk_M_96 mw_M_it mv_M_it rfl ⟨by decide, rfl⟩ rfl rfl rfl (gd_some hv).1 (sp_M_it G hv)) (fun x6 => ?_)
        refine im_aload_n 30 48 rfl rfl ?_
        refine im_iload_n 31 49 rfl rfl ?_
        refine im_iconst 32 50 rfl rfl ?_
        refine im_ci (S := [.int x6]) (fun _ hv => cpV (fr' := 2) (lo' := 41) (i := 33) (As := [.int a2, .int (4 : Int32)]) (S := [.int x6]) (a := t) (c := 11) rfl lk_M_96 mw_M_it mv_M_it rfl ⟨by decide, rfl⟩ rfl rfl rfl (gd_some hv).1 (sp_M_it G hv)) (fun x7 => ?_)
        refine im_ic_ne 34 54 61 rfl (by decide) ?_ ?_
        · refine im_iconst 37 61 rfl rfl ?_
          exact im_end rfl (wp_zreturn 38 62 (ty := .boolean) rfl (by first | exact nz_0 | exact nz_1) rfl)
        · refine im_iconst 35 57 rfl rfl ?_
          refine im_goto 36 58 62 rfl (by decide) ?_
          exact im_end rfl (wp_zreturn 38 62 (ty := .boolean) rfl (by first | exact nz_0 | exact nz_1) rfl)
  · refine im_iconst 6 10 rfl rfl ?_
    exact im_end rfl (wp_zreturn 7 11 (ty := .boolean) rfl (by first | exact nz_0 | exact nz_1) rfl)

theorem sp_M_isSame (G : gl_T) {t : Nat} {a1 : Int32} {a2 : Int32} {M : mm_T} {y : Int32} (h : ff_M_isSame t a1 a2 M = some y) : sp_S mi_M_isSame 3 63 G [.ref t, .int a1, .int a2] M ((sh_i M) y).1 ((sh_i M) y).2 := sp_of mo_M_isSame mw_M_isSame (Or.inl (by decide +kernel)) rfl rfl (Or.inl rfl) (ip_M_isSame G t a1 a2 M y h)

set_option maxRecDepth 100000 in
set_option maxHeartbeats 4000000 in
theorem li_M_carries_11 (G : gl_T) (p0 : Nat) (p1 : Int32) (p3 : Int32) (M : mm_T) : ∀ (fu : Nat) (q5 : Int32) (q6 : Int32), im_I mi_M_carries 5 106 G M (sh_i M) (lf_M_carries_11 p0 p1 p3 M fu q5 q6) 11 [some (.ref p0), some (.int p1), none, some (.int p3), none, some (.int q5), some (.int q6)] [] M := by
  intro fu
  induction fu with
  | zero => intro _ _; exact im_none
  | succ fu ih =>
    intro q5 q6
    show im_I mi_M_carries 5 106 G M (sh_i M) (lb_M_carries_11 p0 p1 p3 M (lf_M_carries_11 p0 p1 p3 M fu) q5 q6) 11 [some (.ref p0), some (.int p1), none, some (.int p3), none, some (.int q5), some (.int q6)] [] M
    unfold lb_M_carries_11
    refine im_iload 6 11 rfl rfl ?_
    refine im_iload_n 7 13 rfl rfl ?_
    refine im_ic_ge 8 14 69 rfl (by decide) ?_ ?_
    · refine im_iload 36 69 rfl rfl ?_
      exact im_endZ (fun _ => rfl) (fun hn => wp_zreturn 37 71 (ty := .boolean) rfl hn rfl)
    · refine im_aload_n 9 17 rfl rfl ?_
      refine im_iload_n 10 18 rfl rfl ?_
      refine im_iload 11 19 rfl rfl ?_
      refine im_ci (S := []) (fun _ hv => cpV (fr' := 3) (lo' := 63) (i := 12) (As := [.int p1, .int q6]) (S := []) (a := p0) (c := 11) rfl lk_M_152 mw_M_isSame mv_M_isSame rfl ⟨by decide, rfl⟩ rfl rfl rfl (gd_some hv).1 (sp_M_isSame G hv)) (fun x2 => ?_)
      refine im_jp (fun j30 => ∀ (x3 : Int32), im_I mi_M_carries 5 106 G M (sh_i M) (j30 x3) 30 [some (.ref p0), some (.int p1), none, some (.int p3), none, some (.int x3), some (.int q6)] [] M) ?_ (fun j30 hj30 => ?_)
      · intro x3
        show im_I mi_M_carries 5 106 G M (sh_i M) (_) 30 [some (.ref p0), some (.int p1), none, some (.int p3), none, some (.int x3), some (.int q6)] [] M
        refine im_aload_n 16 30 rfl rfl ?_
        refine im_iload 17 31 rfl rfl ?_
        refine im_aload_n 18 33 rfl rfl ?_
        refine im_iload_n 19 34 rfl rfl ?_
        refine im_iconst 20 35 rfl rfl ?_
        refine im_ci (S := [.int q6, .ref p0]) (fun _ hv => cpV (fr' := 2) (lo' := 41) (i := 21) (As := [.int p1, .int (2 : Int32)]) (S := [.int q6, .ref p0]) (a := p0) (c := 11) rfl lk_M_96 mw_M_it mv_M_it rfl ⟨by decide, rfl⟩ rfl rfl rfl (gd_some hv).1 (sp_M_it G hv)) (fun x4 => ?_)
        refine im_ci (S := []) (fun _ hv => cpV (fr' := 4) (lo' := 84) (i := 22) (As := [.int q6, .int x4]) (S := []) (a := p0) (c := 11) rfl lk_M_103 mw_M_defines mv_M_defines rfl ⟨by decide, rfl⟩ rfl rfl rfl (gd_some hv).1 (sp_M_defines G hv)) (fun x5 => ?_)
        refine im_jp (fun j63 => ∀ (x6 : Int32), im_I mi_M_carries 5 106 G M (sh_i M) (j63 x6) 63 [some (.ref p0), some (.int p1), none, some (.int p3), none, some (.int x6), some (.int q6)] [] M) ?_ (fun j63 hj63 => ?_)
        · intro x6
          show im_I mi_M_carries 5 106 G M (sh_i M) (_) 63 [some (.ref p0), some (.int p1), none, some (.int p3), none, some (.int x6), some (.int q6)] [] M
          refine im_iincL 34 63 (fun x7 => [some (.ref p0), some (.int p1), none, some (.int p3), none, some (.int x6), some (.int x7)]) rfl rfl rfl rfl (fun _ => rfl) (fun x7 => ?_)
          refine im_goto 35 66 11 rfl (by decide) ?_
          exact im_less _ (by simp [lv_le]) (ih x6 x7)
        refine im_jp (fun j60 => im_I mi_M_carries 5 106 G M (sh_i M) (j60) 60 [some (.ref p0), some (.int p1), none, some (.int p3), none, none, some (.int q6)] [] M) ?_ (fun j60 hj60 => ?_)
        · show im_I mi_M_carries 5 106 G M (sh_i M) (_) 60 [some (.ref p0), some (.int p1), none, some (.int p3), none, none, some (.int q6)] [] M
          refine im_iconst 32 60 rfl rfl ?_
          refine im_istore 33 61 [some (.ref p0), some (.int p1), none, some (.int p3), none, some (.int (0 : Int32)), some (.int q6)] rfl rfl rfl ?_
          exact im_less _ (by simp [lv_le]) (hj63 (0 : Int32))
        refine im_if_ne 23 42 60 rfl (by decide) ?_ ?_
        · exact im_less _ (by simp [lv_le]) (hj60)
        · refine im_aload_n 24 45 rfl rfl ?_
          refine im_iload 25 46 rfl rfl ?_
          refine im_aload_n 26 48 rfl rfl ?_
          refine im_iload_n 27 49 rfl rfl ?_
          refine im_iconst 28 50 rfl rfl ?_
          refine im_ci (S := [.int q6, .ref p0]) (fun _ hv => cpV (fr' := 2) (lo' := 41) (i := 29) (As := [.int p1, .int (4 : Int32)]) (S := [.int q6, .ref p0]) (a := p0) (c := 11) rfl lk_M_96 mw_M_it mv_M_it rfl ⟨by decide, rfl⟩ rfl rfl rfl (gd_some hv).1 (sp_M_it G hv)) (fun x8 => ?_)
          refine im_ci (S := []) (fun _ hv => cpV (fr' := 4) (lo' := 84) (i := 30) (As := [.int q6, .int x8]) (S := []) (a := p0) (c := 11) rfl lk_M_103 mw_M_defines mv_M_defines rfl ⟨by decide, rfl⟩ rfl rfl rfl (gd_some hv).1 (sp_M_defines G hv)) (fun x9 => ?_)
          refine im_if_eq 31 57 63 rfl (by decide) ?_ ?_
          · exact im_less _ (by simp [lv_le]) (hj63 x3)
          · exact im_less _ (by simp [lv_le]) (hj60)
      refine im_if_eq 13 24 30 rfl (by decide) ?_ ?_
      · exact im_less _ (by simp [lv_le]) (hj30 q5)
      · refine im_iconst 14 27 rfl rfl ?_
        refine im_istore 15 28 [some (.ref p0), some (.int p1), none, some (.int p3), none, some (.int (1 : Int32)), some (.int q6)] rfl rfl rfl ?_
        exact im_less _ (by simp [lv_le]) (hj30 (1 : Int32))

set_option maxRecDepth 100000 in
set_option maxHeartbeats 4000000 in
theorem ip_M_carries (G : gl_T) (t : Nat) (a1 : Int32) (a2 : Int32) (a3 : Int32) (a4 : Int32) (M : mm_T) : im_I mi_M_carries 5 106 G M (sh_i M) (ff_M_carries t a1 a2 a3 a4 M) 0 [some (.ref t), some (.int a1), some (.int a2), some (.int a3), some (.int a4), none, none] [] M := by
  unfold ff_M_carries
  refine im_gd (fun hg => ?_)
  refine im_iload 0 0 rfl rfl ?_
  refine im_istore 1 2 [some (.ref t), some (.int a1), some (.int a2), some (.int a3), some (.int a4), some (.int a4), none] rfl rfl rfl ?_
  refine im_aload_n 2 4 rfl rfl ?_
  refine im_iload_n 3 5 rfl rfl ?_
  refine im_ci (S := []) (fun _ hv => cpV (fr' := 3) (lo' := 63) (i := 4) (As := [.int a2]) (S := []) (a := t) (c := 11) rfl lk_M_84 mw_M_firstOf mv_M_firstOf rfl ⟨by decide, rfl⟩ rfl rfl rfl (gd_some hv).1 (sp_M_firstOf G hv)) (fun x1 => ?_)
  refine im_istore 5 9 [some (.ref t), some (.int a1), some (.int a2), some (.int a3), some (.int a4), some (.int a4), some (.int x1)] rfl rfl rfl ?_
  refine im_less [some (.ref t), some (.int a1), none, some (.int a3), none, some (.int a4), some (.int x1)] (by simp [lv_le]) ?_
  exact li_M_carries_11 G t a1 a3 M fu_L a4 x1

theorem sp_M_carries (G : gl_T) {t : Nat} {a1 : Int32} {a2 : Int32} {a3 : Int32} {a4 : Int32} {M : mm_T} {y : Int32} (h : ff_M_carries t a1 a2 a3 a4 M = some y) : sp_S mi_M_carries 5 106 G [.ref t, .int a1, .int a2, .int a3, .int a4] M ((sh_i M) y).1 ((sh_i M) y).2 := sp_of mo_M_carries mw_M_carries (Or.inl (by decide +kernel)) rfl rfl (Or.inl rfl) (ip_M_carries G t a1 a2 a3 a4 M y h)

set_option maxRecDepth 100000 in
set_option maxHeartbeats 4000000 in
theorem li_M_findsLacking_2 (G : gl_T) (M0 : mm_T) (k0 : mm_T → Option (mm_T)) (p0 : Nat) (p1 : Int32) (hk0 : ∀ (N : mm_T), im_I mi_M_findsLacking 21 488 G M0 sw_v (k0 N) 29 [some (.ref p0), some (.int p1), none, none, none] [] N) : ∀ (fu : Nat) (q2 : Int32) (N : mm_T), im_I mi_M_findsLacking 21 488 G M0 sw_v (lf_M_findsLacking_2 k0 p0 p1 fu q2 N) 2 [some (.ref p0), some (.int p1), some (.int q2), none, none] [] N := by
  intro fu
  induction fu with
  | zero => intro _ _; exact im_none
  | succ fu ih =>
    intro q2 N
    show im_I mi_M_findsLacking 21 488 G M0 sw_v (lb_M_findsLacking_2 k0 p0 p1 (lf_M_findsLacking_2 k0 p0 p1 fu) q2 N) 2 [some (.ref p0), some (.int p1), some (.int q2), none, none] [] N
    unfold lb_M_findsLacking_2
    refine im_iload_n 2 2 rfl rfl ?_
    refine im_bipush 3 3 rfl rfl ?_
    refine im_ic_ge 4 5 29 rfl (by decide) ?_ ?_
    · exact im_less _ (by simp [lv_le]) (hk0 N)
    · refine im_aload_n 5 8 rfl rfl ?_
      refine im_getR 6 9 rfl fd_M_20 (by decide +kernel) (fun x1 => ?_)
      refine im_iload_n 7 12 rfl rfl ?_
      refine im_iload_n 8 13 rfl rfl ?_
      refine im_jp (fun j22 => ∀ (x2 : Int32), im_I mi_M_findsLacking 21 488 G M0 sw_v (j22 x2) 22 [some (.ref p0), some (.int p1), some (.int q2), none, none] [.int x2, .int q2, .ref x1] N) ?_ (fun j22 hj22 => ?_)
      · intro x2
        show im_I mi_M_findsLacking 21 488 G M0 sw_v (_) 22 [some (.ref p0), some (.int p1), some (.int q2), none, none] [.int x2, .int q2, .ref x1] N
        refine im_bastore 13 22 rfl (fun M1 => ?_)
        refine im_iincL 14 23 (fun x3 => [some (.ref p0), some (.int p1), some (.int x3), none, none]) rfl rfl rfl rfl (fun _ => rfl) (fun x3 => ?_)
        refine im_goto 15 26 2 rfl (by decide) ?_
        exact im_less _ (by simp [lv_le]) (ih x3 M1)
      refine im_if_ne 9 14 21 rfl (by decide) ?_ ?_
      · refine im_iconst 12 21 rfl rfl ?_
        exact im_less _ (by simp [lv_le]) (hj22 (0 : Int32))
      · refine im_iconst 10 17 rfl rfl ?_
        refine im_goto 11 18 22 rfl (by decide) ?_
        exact im_less _ (by simp [lv_le]) (hj22 (1 : Int32))

set_option maxRecDepth 100000 in
set_option maxHeartbeats 4000000 in
theorem li_M_findsLacking_94 (G : gl_T) (M0 : mm_T) (k0 : Int32 → mm_T → Option (mm_T)) (p0 : Nat) (p1 : Int32) (p3 : Int32) (hk0 : ∀ (z2 : Int32) (N : mm_T), im_I mi_M_findsLacking 21 488 G M0 sw_v (k0 z2 N) 146 [some (.ref p0), some (.int p1), some (.int z2), some (.int p3), none] [] N) : ∀ (fu : Nat) (q2 : Int32) (q4 : Int32) (N : mm_T), im_I mi_M_findsLacking 21 488 G M0 sw_v (lf_M_findsLacking_94 k0 p0 p1 p3 fu q2 q4 N) 94 [some (.ref p0), some (.int p1), some (.int q2), some (.int p3), some (.int q4)] [] N := by
  intro fu
  induction fu with
  | zero => intro _ _ _; exact im_none
  | succ fu ih =>
    intro q2 q4 N
    show im_I mi_M_findsLacking 21 488 G M0 sw_v (lb_M_findsLacking_94 k0 p0 p1 p3 (lf_M_findsLacking_94 k0 p0 p1 p3 fu) q2 q4 N) 94 [some (.ref p0), some (.int p1), some (.int q2), some (.int p3), some (.int q4)] [] N
    unfold lb_M_findsLacking_94
    refine im_iload 54 94 rfl rfl ?_
    refine im_aload_n 55 96 rfl rfl ?_
    refine im_iload_n 56 97 rfl rfl ?_
    refine im_ci (S := [.int q4]) (fun _ hv => cpV (fr' := 3) (lo' := 63) (i := 57) (As := [.int p3]) (S := [.int q4]) (a := p0) (c := 11) rfl lk_M_90 mw_M_ways mv_M_ways rfl ⟨by decide, rfl⟩ rfl rfl rfl (gd_some hv).1 (sp_M_ways G hv)) (fun x13 => ?_)
    refine im_ic_ge 58 101 146 rfl (by decide) ?_ ?_
    · exact im_less _ (by simp [lv_le]) (hk0 q2 N)
    · refine im_iload_n 59 104 rfl rfl ?_
      refine im_aload_n 60 105 rfl rfl ?_
      refine im_getR 61 106 rfl fd_M_20 (by decide +kernel) (fun x14 => ?_)
      refine im_aload_n 62 109 rfl rfl ?_
      refine im_iload_n 63 110 rfl rfl ?_
      refine im_iload 64 111 rfl rfl ?_
      refine im_ci (S := [.ref x14, .int q2]) (fun _ hv => cpV (fr' := 3) (lo' := 63) (i := 65) (As := [.int p3, .int q4]) (S := [.ref x14, .int q2]) (a := p0) (c := 11) rfl lk_M_93 mw_M_way mv_M_way rfl ⟨by decide, rfl⟩ rfl rfl rfl (gd_some hv).1 (sp_M_way G hv)) (fun x15 => ?_)
      refine im_baload 66 116 rfl (fun x16 => ?_)
      refine im_jp (fun j125 => ∀ (x17 : Int32), im_I mi_M_findsLacking 21 488 G M0 sw_v (j125 x17) 125 [some (.ref p0), some (.int p1), none, some (.int p3), some (.int q4)] [.int x17, .int q2] N) ?_ (fun j125 hj125 => ?_)
      · intro x17
        show im_I mi_M_findsLacking 21 488 G M0 sw_v (_) 125 [some (.ref p0), some (.int p1), none, some (.int p3), some (.int q4)] [.int x17, .int q2] N
        refine im_ior 71 125 rfl ?_
        refine im_letI (fun x18 => ?_)
        refine im_istore_n 72 126 [some (.ref p0), some (.int p1), some (.int x18), some (.int p3), some (.int q4)] rfl rfl rfl ?_
        refine im_aload_n 73 127 rfl rfl ?_
        refine im_getR 74 128 rfl fd_M_20 (by decide +kernel) (fun x19 => ?_)
        refine im_aload_n 75 131 rfl rfl ?_
        refine im_iload_n 76 132 rfl rfl ?_
        refine im_iload 77 133 rfl rfl ?_
        refine im_ci (S := [.ref x19]) (fun _ hv => cpV (fr' := 3) (lo' := 63) (i := 78) (As := [.int p3, .int q4]) (S := [.ref x19]) (a := p0) (c := 11) rfl lk_M_93 mw_M_way mv_M_way rfl ⟨by decide, rfl⟩ rfl rfl rfl (gd_some hv).1 (sp_M_way G hv)) (fun x20 => ?_)
        refine im_iconst 79 138 rfl rfl ?_
        refine im_bastore 80 139 rfl (fun M5 => ?_)
        refine im_iincL 81 140 (fun x21 => [some (.ref p0), some (.int p1), some (.int x18), some (.int p3), some (.int x21)]) rfl rfl rfl rfl (fun _ => rfl) (fun x21 => ?_)
        refine im_goto 82 143 94 rfl (by decide) ?_
        exact im_less _ (by simp [lv_le]) (ih x18 x21 M5)
      refine im_if_ne 67 117 124 rfl (by decide) ?_ ?_
      · refine im_iconst 70 124 rfl rfl ?_
        exact im_less _ (by simp [lv_le]) (hj125 (0 : Int32))
      · refine im_iconst 68 120 rfl rfl ?_
        refine im_goto 69 121 125 rfl (by decide) ?_
        exact im_less _ (by simp [lv_le]) (hj125 (1 : Int32))

set_option maxRecDepth 100000 in
set_option maxHeartbeats 4000000 in
theorem li_M_findsLacking_39 (G : gl_T) (M0 : mm_T) (k0 : Int32 → mm_T → Option (mm_T)) (p0 : Nat) (p1 : Int32) (hk0 : ∀ (z2 : Int32) (N : mm_T), im_I mi_M_findsLacking 21 488 G M0 sw_v (k0 z2 N) 152 [some (.ref p0), some (.int p1), some (.int z2), none, none] [] N) : ∀ (fu : Nat) (q2 : Int32) (q3 : Int32) (N : mm_T), im_I mi_M_findsLacking 21 488 G M0 sw_v (lf_M_findsLacking_39 k0 p0 p1 fu q2 q3 N) 39 [some (.ref p0), some (.int p1), some (.int q2), some (.int q3), none] [] N := by
  intro fu
  induction fu with
  | zero => intro _ _ _; exact im_none
  | succ fu ih =>
    intro q2 q3 N
    show im_I mi_M_findsLacking 21 488 G M0 sw_v (lb_M_findsLacking_39 k0 p0 p1 (lf_M_findsLacking_39 k0 p0 p1 fu) q2 q3 N) 39 [some (.ref p0), some (.int p1), some (.int q2), some (.int q3), none] [] N
    unfold lb_M_findsLacking_39
    refine im_iload_n 24 39 rfl rfl ?_
    refine im_aload_n 25 40 rfl rfl ?_
    refine im_iconst 26 41 rfl rfl ?_
    refine im_ci (S := [.int q3]) (fun _ hv => cpV (fr' := 1) (lo' := 20) (i := 27) (As := [.int (0 : Int32)]) (S := [.int q3]) (a := p0) (c := 11) rfl lk_M_61 mw_M_get mv_M_get rfl ⟨by decide, rfl⟩ rfl rfl rfl (gd_some hv).1 (sp_M_get G hv)) (fun x4 => ?_)
    refine im_ic_ge 28 45 152 rfl (by decide) ?_ ?_
    · exact im_less _ (by simp [lv_le]) (hk0 q2 N)
    · refine im_aload_n 29 48 rfl rfl ?_
      refine im_iload_n 30 49 rfl rfl ?_
      refine im_iconst 31 50 rfl rfl ?_
      refine im_cWi (S := []) (fun _ _ hv => cpV (fr' := 20) (lo' := 466) (i := 32) (As := [.int q3, .int (-1 : Int32)]) (S := []) (a := p0) (c := 11) rfl lk_M_155 mw_M_isReached mv_M_isReached rfl ⟨by decide, rfl⟩ rfl rfl rfl (gd_some hv).1 (sp_M_isReached G hv)) (fun x5 M3 => ?_)
      refine im_jp (fun j146 => ∀ (x6 : Int32) (M4 : mm_T), im_I mi_M_findsLacking 21 488 G M0 sw_v (j146 x6 M4) 146 [some (.ref p0), some (.int p1), some (.int x6), some (.int q3), none] [] M4) ?_ (fun j146 hj146 => ?_)
      · intro x6 M4
        show im_I mi_M_findsLacking 21 488 G M0 sw_v (_) 146 [some (.ref p0), some (.int p1), some (.int x6), some (.int q3), none] [] M4
        refine im_iincL 83 146 (fun x7 => [some (.ref p0), some (.int p1), some (.int x6), some (.int x7), none]) rfl rfl rfl rfl (fun _ => rfl) (fun x7 => ?_)
        refine im_goto 84 149 39 rfl (by decide) ?_
        exact im_less _ (by simp [lv_le]) (ih x6 x7 M4)
      refine im_if_ne 33 54 60 rfl (by decide) ?_ ?_
      · refine im_aload_n 35 60 rfl rfl ?_
        refine im_iload_n 36 61 rfl rfl ?_
        refine im_iload_n 37 62 rfl rfl ?_
        refine im_aload_n 38 63 rfl rfl ?_
        refine im_iload_n 39 64 rfl rfl ?_
        refine im_ci (S := [.int q3, .int p1, .ref p0]) (fun _ hv => cpV (fr' := 4) (lo' := 86) (i := 40) (As := [.int q3]) (S := [.int q3, .int p1, .ref p0]) (a := p0) (c := 11) rfl lk_M_87 mw_M_endOf mv_M_endOf rfl ⟨by decide, rfl⟩ rfl rfl rfl (gd_some hv).1 (sp_M_endOf G hv)) (fun x8 => ?_)
        refine im_aload_n 41 68 rfl rfl ?_
        refine im_getR 42 69 rfl fd_M_20 (by decide +kernel) (fun x9 => ?_)
        refine im_iload_n 43 72 rfl rfl ?_
        refine im_baload 44 73 rfl (fun x10 => ?_)
        refine im_jp (fun j82 => ∀ (x11 : Int32), im_I mi_M_findsLacking 21 488 G M0 sw_v (j82 x11) 82 [some (.ref p0), some (.int p1), some (.int q2), some (.int q3), none] [.int x11, .int x8, .int q3, .int p1, .ref p0] M3) ?_ (fun j82 hj82 => ?_)
        · intro x11
          show im_I mi_M_findsLacking 21 488 G M0 sw_v (_) 82 [some (.ref p0), some (.int p1), some (.int q2), some (.int q3), none] [.int x11, .int x8, .int q3, .int p1, .ref p0] M3
          refine im_ci (S := []) (fun _ hv => cpV (fr' := 5) (lo' := 106) (i := 49) (As := [.int p1, .int q3, .int x8, .int x11]) (S := []) (a := p0) (c := 11) rfl lk_M_158 mw_M_carries mv_M_carries rfl ⟨by decide, rfl⟩ rfl rfl rfl (gd_some hv).1 (sp_M_carries G hv)) (fun x12 => ?_)
          refine im_if_eq 50 85 91 rfl (by decide) ?_ ?_
          · refine im_iconst 52 91 rfl rfl ?_
            refine im_istore 53 92 [some (.ref p0), some (.int p1), some (.int q2), some (.int q3), some (.int (0 : Int32))] rfl rfl rfl ?_
            refine im_less [some (.ref p0), some (.int p1), some (.int q2), some (.int q3), some (.int (0 : Int32))] (by simp [lv_le]) ?_
            refine li_M_findsLacking_94 G M0 _ p0 p1 q3 ?_ fu_L q2 (0 : Int32) M3
            · intro x22 M6
              show im_I mi_M_findsLacking 21 488 G M0 sw_v (_) 146 [some (.ref p0), some (.int p1), some (.int x22), some (.int q3), none] [] M6
              exact im_less _ (by simp [lv_le]) (hj146 x22 M6)
          · refine im_goto 51 88 146 rfl (by decide) ?_
            exact im_less _ (by simp [lv_le]) (hj146 q2 M3)
        refine im_if_ne 45 74 81 rfl (by decide) ?_ ?_
        · refine im_iconst 48 81 rfl rfl ?_
          exact im_less _ (by simp [lv_le]) (hj82 (0 : Int32))
        · refine im_iconst 46 77 rfl rfl ?_
          refine im_goto 47 78 82 rfl (by decide) ?_
          exact im_less _ (by simp [lv_le]) (hj82 (1 : Int32))
      · refine im_goto 34 57 146 rfl (by decide) ?_
        exact im_less _ (by simp [lv_le]) (hj146 q2 M3)

set_option maxRecDepth 100000 in
set_option maxHeartbeats 4000000 in
theorem li_M_findsLacking_31 (G : gl_T) (M0 : mm_T) (p0 : Nat) (p1 : Int32) : ∀ (fu : Nat) (q2 : Int32) (N : mm_T), im_I mi_M_findsLacking 21 488 G M0 sw_v (lf_M_findsLacking_31 p0 p1 fu q2 N) 31 [some (.ref p0), some (.int p1), some (.int q2), none, none] [] N := by
  intro fu
  induction fu with
  | zero => intro _ _; exact im_none
  | succ fu ih =>
    intro q2 N
    show im_I mi_M_findsLacking 21 488 G M0 sw_v (lb_M_findsLacking_31 p0 p1 (lf_M_findsLacking_31 p0 p1 fu) q2 N) 31 [some (.ref p0), some (.int p1), some (.int q2), none, none] [] N
    unfold lb_M_findsLacking_31
    refine im_iload_n 18 31 rfl rfl ?_
    refine im_if_eq 19 32 155 rfl (by decide) ?_ ?_
    · exact im_end rfl (wp_return 86 155 rfl rfl)
    · refine im_iconst 20 35 rfl rfl ?_
      refine im_istore_n 21 36 [some (.ref p0), some (.int p1), some (.int (0 : Int32)), none, none] rfl rfl rfl ?_
      refine im_iconst 22 37 rfl rfl ?_
      refine im_istore_n 23 38 [some (.ref p0), some (.int p1), some (.int (0 : Int32)), some (.int (0 : Int32)), none] rfl rfl rfl ?_
      refine im_less [some (.ref p0), some (.int p1), some (.int (0 : Int32)), some (.int (0 : Int32)), none] (by simp [lv_le]) ?_
      refine li_M_findsLacking_39 G M0 _ p0 p1 ?_ fu_L (0 : Int32) (0 : Int32) N
      · intro x23 M7
        show im_I mi_M_findsLacking 21 488 G M0 sw_v (_) 152 [some (.ref p0), some (.int p1), some (.int x23), none, none] [] M7
        refine im_goto 85 152 31 rfl (by decide) ?_
        exact im_less _ (by simp [lv_le]) (ih x23 M7)

set_option maxRecDepth 100000 in
set_option maxHeartbeats 4000000 in
theorem ip_M_findsLacking (G : gl_T) (t : Nat) (a1 : Int32) (M : mm_T) : im_I mi_M_findsLacking 21 488 G M sw_v (ff_M_findsLacking t a1 M) 0 [some (.ref t), some (.int a1), none, none, none] [] M := by
  unfold ff_M_findsLacking
  refine im_gd (fun hg => ?_)
  refine im_iconst 0 0 rfl rfl ?_
  refine im_istore_n 1 1 [some (.ref t), some (.int a1), some (.int (0 : Int32)), none, none] rfl rfl rfl ?_
  refine im_less [some (.ref t), some (.int a1), some (.int (0 : Int32)), none, none] (by simp [lv_le]) ?_
  refine li_M_findsLacking_2 G M _ t a1 ?_ fu_L (0 : Int32) M
  · intro M2
    show im_I mi_M_findsLacking 21 488 G M sw_v (_) 29 [some (.ref t), some (.int a1), none, none, none] [] M2
    refine im_iconst 16 29 rfl rfl ?_
    refine im_istore_n 17 30 [some (.ref t), some (.int a1), some (.int (1 : Int32)), none, none] rfl rfl rfl ?_
    refine im_less [some (.ref t), some (.int a1), some (.int (1 : Int32)), none, none] (by simp [lv_le]) ?_
    exact li_M_findsLacking_31 G M t a1 fu_L (1 : Int32) M2

theorem sp_M_findsLacking (G : gl_T) {t : Nat} {a1 : Int32} {M : mm_T} {y : mm_T} (h : ff_M_findsLacking t a1 M = some y) : sp_S mi_M_findsLacking 21 488 G [.ref t, .int a1] M (sw_v y).1 (sw_v y).2 := sp_of mo_M_findsLacking mw_M_findsLacking (Or.inl (by decide +kernel)) rfl rfl (Or.inl rfl) (ip_M_findsLacking G t a1 M y h)

set_option maxRecDepth 100000 in
set_option maxHeartbeats 4000000 in
theorem ip_M_isAvailable (G : gl_T) (t : Nat) (a1 : Int32) (a2 : Int32) (a3 : Int32) (M : mm_T) : im_I mi_M_isAvailable 22 512 G M sw_i (ff_M_isAvailable t a1 a2 a3 M) 0 [some (.ref t), some (.int a1), some (.int a2), some (.int a3)] [] M := by
  unfold ff_M_isAvailable
  refine im_gd (fun hg => ?_)
  refine im_aload_n 0 0 rfl rfl ?_
  refine im_iload_n 1 1 rfl rfl ?_
  refine im_iconst 2 2 rfl rfl ?_
  refine im_cWi (S := []) (fun _ _ hv => cpV (fr' := 20) (lo' := 466) (i := 3) (As := [.int a2, .int (-1 : Int32)]) (S := []) (a := t) (c := 11) rfl lk_M_155 mw_M_isReached mv_M_isReached rfl ⟨by decide, rfl⟩ rfl rfl rfl (gd_some hv).1 (sp_M_isReached G hv)) (fun x1 M1 => ?_)
  refine im_if_ne 4 6 11 rfl (by decide) ?_ ?_
  · refine im_aload_n 7 11 rfl rfl ?_
    refine im_iload_n 8 12 rfl rfl ?_
    refine im_cWv (S := []) (fun _ hv => cpV (fr' := 21) (lo' := 488) (i := 9) (As := [.int a1]) (S := []) (a := t) (c := 11) rfl lk_M_162 mw_M_findsLacking mv_M_findsLacking rfl ⟨by decide, rfl⟩ rfl rfl rfl (gd_some hv).1 (sp_M_findsLacking G hv)) (fun M2 => ?_)
    refine im_aload_n 10 16 rfl rfl ?_
    refine im_iload_n 11 17 rfl rfl ?_
    refine im_iload_n 12 18 rfl rfl ?_
    refine im_iload_n 13 19 rfl rfl ?_
    refine im_aload_n 14 20 rfl rfl ?_
    refine im_getR 15 21 rfl fd_M_20 (by decide +kernel) (fun x2 => ?_)
    refine im_iload_n 16 24 rfl rfl ?_
    refine im_baload 17 25 rfl (fun x3 => ?_)
    refine im_jp (fun j34 => ∀ (x4 : Int32), im_I mi_M_isAvailable 22 512 G M sw_i (j34 x4) 34 [none, none, none, none] [.int x4, .int a3, .int a2, .int a1, .ref t] M2) ?_ (fun j34 hj34 => ?_)
    · intro x4
      show im_I mi_M_isAvailable 22 512 G M sw_i (_) 34 [none, none, none, none] [.int x4, .int a3, .int a2, .int a1, .ref t] M2
      refine im_ci (S := []) (fun _ hv => cpV (fr' := 5) (lo' := 106) (i := 22) (As := [.int a1, .int a2, .int a3, .int x4]) (S := []) (a := t) (c := 11) rfl lk_M_158 mw_M_carries mv_M_carries rfl ⟨by decide, rfl⟩ rfl rfl rfl (gd_some hv).1 (sp_M_carries G hv)) (fun x5 => ?_)
      exact im_endZ (fun _ => rfl) (fun hn => wp_zreturn 23 37 (ty := .boolean) rfl hn rfl)
    refine im_if_ne 18 26 33 rfl (by decide) ?_ ?_
    · refine im_iconst 21 33 rfl rfl ?_
      exact im_less _ (by simp [lv_le]) (hj34 (0 : Int32))
    · refine im_iconst 19 29 rfl rfl ?_
      refine im_goto 20 30 34 rfl (by decide) ?_
      exact im_less _ (by simp [lv_le]) (hj34 (1 : Int32))
  · refine im_iconst 5 9 rfl rfl ?_
    exact im_end rfl (wp_zreturn 6 10 (ty := .boolean) rfl (by first | exact nz_0 | exact nz_1) rfl)

theorem sp_M_isAvailable (G : gl_T) {t : Nat} {a1 : Int32} {a2 : Int32} {a3 : Int32} {M : mm_T} {y : Int32 × mm_T} (h : ff_M_isAvailable t a1 a2 a3 M = some y) : sp_S mi_M_isAvailable 22 512 G [.ref t, .int a1, .int a2, .int a3] M (sw_i y).1 (sw_i y).2 := sp_of mo_M_isAvailable mw_M_isAvailable (Or.inl (by decide +kernel)) rfl rfl (Or.inl rfl) (ip_M_isAvailable G t a1 a2 a3 M y h)

set_option maxRecDepth 100000 in
set_option maxHeartbeats 4000000 in
theorem li_M_isNewest_14 (G : gl_T) (p0 : Nat) (p1 : Int32) (M : mm_T) : ∀ (fu : Nat) (q2 : Int32), im_I mi_M_isNewest 4 85 G M (sh_i M) (lf_M_isNewest_14 p0 p1 M fu q2) 14 [some (.ref p0), some (.int p1), some (.int q2)] [] M := by
  intro fu
  induction fu with
  | zero => intro _; exact im_none
  | succ fu ih =>
    intro q2
    show im_I mi_M_isNewest 4 85 G M (sh_i M) (lb_M_isNewest_14 p0 p1 M (lf_M_isNewest_14 p0 p1 M fu) q2) 14 [some (.ref p0), some (.int p1), some (.int q2)] [] M
    unfold lb_M_isNewest_14
    refine im_iload_n 10 14 rfl rfl ?_
    refine im_iload_n 11 15 rfl rfl ?_
    refine im_ic_ge 12 16 36 rfl (by decide) ?_ ?_
    · refine im_iconst 22 36 rfl rfl ?_
      exact im_end rfl (wp_zreturn 23 37 (ty := .boolean) rfl (by first | exact nz_0 | exact nz_1) rfl)
    · refine im_aload_n 13 19 rfl rfl ?_
      refine im_iload_n 14 20 rfl rfl ?_
      refine im_iload_n 15 21 rfl rfl ?_
      refine im_ci (S := []) (fun _ hv => cpV (fr' := 3) (lo' := 63) (i := 16) (As := [.int p1, .int q2]) (S := []) (a := p0) (c := 11) rfl lk_M_152 mw_M_isSame mv_M_isSame rfl ⟨by decide, rfl⟩ rfl rfl rfl (gd_some hv).1 (sp_M_isSame G hv)) (fun x2 => ?_)
      refine im_if_eq 17 25 30 rfl (by decide) ?_ ?_
      · refine im_iincL 20 30 (fun x3 => [some (.ref p0), some (.int p1), some (.int x3)]) rfl rfl rfl rfl (fun _ => rfl) (fun x3 => ?_)
        refine im_goto 21 33 14 rfl (by decide) ?_
        exact im_less _ (by simp [lv_le]) (ih x3)
      · refine im_iconst 18 28 rfl rfl ?_
        exact im_end rfl (wp_zreturn 19 29 (ty := .boolean) rfl (by first | exact nz_0 | exact nz_1) rfl)

set_option maxRecDepth 100000 in
set_option maxHeartbeats 4000000 in
theorem ip_M_isNewest (G : gl_T) (t : Nat) (a1 : Int32) (M : mm_T) : im_I mi_M_isNewest 4 85 G M (sh_i M) (ff_M_isNewest t a1 M) 0 [some (.ref t), some (.int a1), none] [] M := by
  unfold ff_M_isNewest
  refine im_gd (fun hg => ?_)
  refine im_aload_n 0 0 rfl rfl ?_
  refine im_iload_n 1 1 rfl rfl ?_
  refine im_iconst 2 2 rfl rfl ?_
  refine im_ci (S := []) (fun _ hv => cpV (fr' := 2) (lo' := 41) (i := 3) (As := [.int a1, .int (0 : Int32)]) (S := []) (a := t) (c := 11) rfl lk_M_96 mw_M_it mv_M_it rfl ⟨by decide, rfl⟩ rfl rfl rfl (gd_some hv).1 (sp_M_it G hv)) (fun x1 => ?_)
  refine im_iconst 4 6 rfl rfl ?_
  refine im_ic_eq 5 7 12 rfl (by decide) ?_ ?_
  · refine im_iconst 8 12 rfl rfl ?_
    refine im_istore_n 9 13 [some (.ref t), some (.int a1), some (.int (0 : Int32))] rfl rfl rfl ?_
    refine im_less [some (.ref t), some (.int a1), some (.int (0 : Int32))] (by simp [lv_le]) ?_
    exact li_M_isNewest_14 G t a1 M fu_L (0 : Int32)
  · refine im_iconst 6 10 rfl rfl ?_
    exact im_end rfl (wp_zreturn 7 11 (ty := .boolean) rfl (by first | exact nz_0 | exact nz_1) rfl)

theorem sp_M_isNewest (G : gl_T) {t : Nat} {a1 : Int32} {M : mm_T} {y : Int32} (h : ff_M_isNewest t a1 M = some y) : sp_S mi_M_isNewest 4 85 G [.ref t, .int a1] M ((sh_i M) y).1 ((sh_i M) y).2 := sp_of mo_M_isNewest mw_M_isNewest (Or.inl (by decide +kernel)) rfl rfl (Or.inl rfl) (ip_M_isNewest G t a1 M y h)

set_option maxRecDepth 100000 in
set_option maxHeartbeats 4000000 in
theorem ip_M_isRedundant0 (G : gl_T) (t : Nat) (a1 : Int32) (M : mm_T) : im_I mi_M_isRedundant0 23 535 G M sw_i (ff_M_isRedundant0 t a1 M) 0 [some (.ref t), some (.int a1)] [] M := by
  unfold ff_M_isRedundant0
  refine im_gd (fun hg => ?_)
  refine im_aload_n 0 0 rfl rfl ?_
  refine im_iload_n 1 1 rfl rfl ?_
  refine im_iconst 2 2 rfl rfl ?_
  refine im_ci (S := []) (fun _ hv => cpV (fr' := 2) (lo' := 41) (i := 3) (As := [.int a1, .int (0 : Int32)]) (S := []) (a := t) (c := 11) rfl lk_M_96 mw_M_it mv_M_it rfl ⟨by decide, rfl⟩ rfl rfl rfl (gd_some hv).1 (sp_M_it G hv)) (fun x1 => ?_)
  refine im_iconst 4 6 rfl rfl ?_
  refine im_ic_ne 5 7 28 rfl (by decide) ?_ ?_
  · refine im_iconst 16 28 rfl rfl ?_
    exact im_end rfl (wp_zreturn 17 29 (ty := .boolean) rfl (by first | exact nz_0 | exact nz_1) rfl)
  · refine im_aload_n 6 10 rfl rfl ?_
    refine im_iload_n 7 11 rfl rfl ?_
    refine im_aload_n 8 12 rfl rfl ?_
    refine im_iload_n 9 13 rfl rfl ?_
    refine im_ci (S := [.int a1, .ref t]) (fun _ hv => cpV (fr' := 5) (lo' := 107) (i := 10) (As := [.int a1]) (S := [.int a1, .ref t]) (a := t) (c := 11) rfl lk_M_121 mw_M_blockAt mv_M_blockAt rfl ⟨by decide, rfl⟩ rfl rfl rfl (gd_some hv).1 (sp_M_blockAt G hv)) (fun x2 => ?_)
    refine im_iload_n 11 17 rfl rfl ?_
    refine im_cWi (S := []) (fun _ _ hv => cpV (fr' := 22) (lo' := 512) (i := 12) (As := [.int a1, .int x2, .int a1]) (S := []) (a := t) (c := 11) rfl lk_M_166 mw_M_isAvailable mv_M_isAvailable rfl ⟨by decide, rfl⟩ rfl rfl rfl (gd_some hv).1 (sp_M_isAvailable G hv)) (fun x3 M1 => ?_)
    refine im_if_eq 13 21 28 rfl (by decide) ?_ ?_
    · refine im_iconst 16 28 rfl rfl ?_
      exact im_end rfl (wp_zreturn 17 29 (ty := .boolean) rfl (by first | exact nz_0 | exact nz_1) rfl)
    · refine im_iconst 14 24 rfl rfl ?_
      refine im_goto 15 25 29 rfl (by decide) ?_
      exact im_end rfl (wp_zreturn 17 29 (ty := .boolean) rfl (by first | exact nz_0 | exact nz_1) rfl)

theorem sp_M_isRedundant0 (G : gl_T) {t : Nat} {a1 : Int32} {M : mm_T} {y : Int32 × mm_T} (h : ff_M_isRedundant0 t a1 M = some y) : sp_S mi_M_isRedundant0 23 535 G [.ref t, .int a1] M (sw_i y).1 (sw_i y).2 := sp_of mo_M_isRedundant0 mw_M_isRedundant0 (Or.inl (by decide +kernel)) rfl rfl (Or.inl rfl) (ip_M_isRedundant0 G t a1 M y h)

set_option maxRecDepth 100000 in
set_option maxHeartbeats 4000000 in
theorem ip_M_governs (G : gl_T) (t : Nat) (a1 : Int32) (a2 : Int32) (M : mm_T) : im_I mi_M_governs 21 488 G M sw_i (ff_M_governs t a1 a2 M) 0 [some (.ref t), some (.int a1), some (.int a2)] [] M := by
  unfold ff_M_governs
  refine im_gd (fun hg => ?_)
  refine im_aload_n 0 0 rfl rfl ?_
  refine im_iload_n 1 1 rfl rfl ?_
  refine im_iconst 2 2 rfl rfl ?_
  refine im_cWi (S := []) (fun _ _ hv => cpV (fr' := 20) (lo' := 466) (i := 3) (As := [.int a1, .int (-1 : Int32)]) (S := []) (a := t) (c := 11) rfl lk_M_155 mw_M_isReached mv_M_isReached rfl ⟨by decide, rfl⟩ rfl rfl rfl (gd_some hv).1 (sp_M_isReached G hv)) (fun x1 M1 => ?_)
  refine im_if_eq 4 6 18 rfl (by decide) ?_ ?_
  · refine im_iconst 10 18 rfl rfl ?_
    exact im_end rfl (wp_zreturn 11 19 (ty := .boolean) rfl (by first | exact nz_0 | exact nz_1) rfl)
  · refine im_aload_n 5 9 rfl rfl ?_
    refine im_iload_n 6 10 rfl rfl ?_
    refine im_iconst 7 11 rfl rfl ?_
    refine im_cWi (S := []) (fun _ _ hv => cpV (fr' := 20) (lo' := 466) (i := 8) (As := [.int a2, .int (-1 : Int32)]) (S := []) (a := t) (c := 11) rfl lk_M_155 mw_M_isReached mv_M_isReached rfl ⟨by decide, rfl⟩ rfl rfl rfl (gd_some hv).1 (sp_M_isReached G hv)) (fun x2 M2 => ?_)
    refine im_if_ne 9 15 20 rfl (by decide) ?_ ?_
    · refine im_iload_n 12 20 rfl rfl ?_
      refine im_iload_n 13 21 rfl rfl ?_
      refine im_jp (fun j34 => ∀  (M3 : mm_T), im_I mi_M_governs 21 488 G M sw_i (j34 M3) 34 [none, none, none] [] M3) ?_ (fun j34 hj34 => ?_)
      · intro M3
        show im_I mi_M_governs 21 488 G M sw_i (_) 34 [none, none, none] [] M3
        refine im_iconst 20 34 rfl rfl ?_
        refine im_goto 21 35 39 rfl (by decide) ?_
        exact im_end rfl (wp_zreturn 23 39 (ty := .boolean) rfl (by first | exact nz_0 | exact nz_1) rfl)
      refine im_ic_eq 14 22 34 rfl (by decide) ?_ ?_
      · exact im_less _ (by simp [lv_le]) (hj34 M2)
      · refine im_aload_n 15 25 rfl rfl ?_
        refine im_iload_n 16 26 rfl rfl ?_
        refine im_iload_n 17 27 rfl rfl ?_
        refine im_cWi (S := []) (fun _ _ hv => cpV (fr' := 20) (lo' := 466) (i := 18) (As := [.int a2, .int a1]) (S := []) (a := t) (c := 11) rfl lk_M_155 mw_M_isReached mv_M_isReached rfl ⟨by decide, rfl⟩ rfl rfl rfl (gd_some hv).1 (sp_M_isReached G hv)) (fun x3 M4 => ?_)
        refine im_if_ne 19 31 38 rfl (by decide) ?_ ?_
        · refine im_iconst 22 38 rfl rfl ?_
          exact im_end rfl (wp_zreturn 23 39 (ty := .boolean) rfl (by first | exact nz_0 | exact nz_1) rfl)
        · exact im_less _ (by simp [lv_le]) (hj34 M4)
    · refine im_iconst 10 18 rfl rfl ?_
      exact im_end rfl (wp_zreturn 11 19 (ty := .boolean) rfl (by first | exact nz_0 | exact nz_1) rfl)

theorem sp_M_governs (G : gl_T) {t : Nat} {a1 : Int32} {a2 : Int32} {M : mm_T} {y : Int32 × mm_T} (h : ff_M_governs t a1 a2 M = some y) : sp_S mi_M_governs 21 488 G [.ref t, .int a1, .int a2] M (sw_i y).1 (sw_i y).2 := sp_of mo_M_governs mw_M_governs (Or.inl (by decide +kernel)) rfl rfl (Or.inl rfl) (ip_M_governs G t a1 a2 M y h)

set_option maxRecDepth 100000 in
set_option maxHeartbeats 4000000 in
theorem li_M_governors_4 (G : gl_T) (M0 : mm_T) (p0 : Nat) (p1 : Int32) : ∀ (fu : Nat) (q2 : Int32) (q3 : Int32) (N : mm_T), im_I mi_M_governors 22 510 G M0 sw_i (lf_M_governors_4 p0 p1 fu q2 q3 N) 4 [some (.ref p0), some (.int p1), some (.int q2), some (.int q3)] [] N := by
  intro fu
  induction fu with
  | zero => intro _ _ _; exact im_none
  | succ fu ih =>
    intro q2 q3 N
    show im_I mi_M_governors 22 510 G M0 sw_i (lb_M_governors_4 p0 p1 (lf_M_governors_4 p0 p1 fu) q2 q3 N) 4 [some (.ref p0), some (.int p1), some (.int q2), some (.int q3)] [] N
    unfold lb_M_governors_4
    refine im_iload_n 4 4 rfl rfl ?_
    refine im_aload_n 5 5 rfl rfl ?_
    refine im_iconst 6 6 rfl rfl ?_
    refine im_ci (S := [.int q3]) (fun _ hv => cpV (fr' := 1) (lo' := 20) (i := 7) (As := [.int (0 : Int32)]) (S := [.int q3]) (a := p0) (c := 11) rfl lk_M_61 mw_M_get mv_M_get rfl ⟨by decide, rfl⟩ rfl rfl rfl (gd_some hv).1 (sp_M_get G hv)) (fun x1 => ?_)
    refine im_ic_ge 8 10 31 rfl (by decide) ?_ ?_
    · refine im_iload_n 19 31 rfl rfl ?_
      exact im_end rfl (wp_ireturn 20 32 rfl rfl)
    · refine im_iload_n 9 13 rfl rfl ?_
      refine im_aload_n 10 14 rfl rfl ?_
      refine im_iload_n 11 15 rfl rfl ?_
      refine im_iload_n 12 16 rfl rfl ?_
      refine im_cWi (S := [.int q2]) (fun _ _ hv => cpV (fr' := 21) (lo' := 488) (i := 13) (As := [.int q3, .int p1]) (S := [.int q2]) (a := p0) (c := 11) rfl lk_M_169 mw_M_governs mv_M_governs rfl ⟨by decide, rfl⟩ rfl rfl rfl (gd_some hv).1 (sp_M_governs G hv)) (fun x2 M1 => ?_)
      refine im_ci (S := [.int q2]) (fun _ hv => cpS (fr' := 1) (lo' := 20) (i := 14) (As := [.int x2]) (S := [.int q2]) rfl lk_M_117 mw_M_one mv_M_one rfl rfl rfl rfl (sp_M_one G hv)) (fun x3 => ?_)
      refine im_iadd 15 23 rfl ?_
      refine im_letI (fun x4 => ?_)
      refine im_istore_n 16 24 [some (.ref p0), some (.int p1), some (.int x4), some (.int q3)] rfl rfl rfl ?_
      refine im_iincL 17 25 (fun x5 => [some (.ref p0), some (.int p1), some (.int x4), some (.int x5)]) rfl rfl rfl rfl (fun _ => rfl) (fun x5 => ?_)
      refine im_goto 18 28 4 rfl (by decide) ?_
      exact im_less _ (by simp [lv_le]) (ih x4 x5 M1)

set_option maxRecDepth 100000 in
set_option maxHeartbeats 4000000 in
theorem ip_M_governors (G : gl_T) (t : Nat) (a1 : Int32) (M : mm_T) : im_I mi_M_governors 22 510 G M sw_i (ff_M_governors t a1 M) 0 [some (.ref t), some (.int a1), none, none] [] M := by
  unfold ff_M_governors
  refine im_gd (fun hg => ?_)
  refine im_iconst 0 0 rfl rfl ?_
  refine im_istore_n 1 1 [some (.ref t), some (.int a1), some (.int (0 : Int32)), none] rfl rfl rfl ?_
  refine im_iconst 2 2 rfl rfl ?_
  refine im_istore_n 3 3 [some (.ref t), some (.int a1), some (.int (0 : Int32)), some (.int (0 : Int32))] rfl rfl rfl ?_
  refine im_less [some (.ref t), some (.int a1), some (.int (0 : Int32)), some (.int (0 : Int32))] (by simp [lv_le]) ?_
  exact li_M_governors_4 G M t a1 fu_L (0 : Int32) (0 : Int32) M

theorem sp_M_governors (G : gl_T) {t : Nat} {a1 : Int32} {M : mm_T} {y : Int32 × mm_T} (h : ff_M_governors t a1 M = some y) : sp_S mi_M_governors 22 510 G [.ref t, .int a1] M (sw_i y).1 (sw_i y).2 := sp_of mo_M_governors mw_M_governors (Or.inl (by decide +kernel)) rfl rfl (Or.inl rfl) (ip_M_governors G t a1 M y h)

set_option maxRecDepth 100000 in
set_option maxHeartbeats 4000000 in
theorem ip_M_isBackEdge (G : gl_T) (t : Nat) (a1 : Int32) (a2 : Int32) (M : mm_T) : im_I mi_M_isBackEdge 22 510 G M sw_i (ff_M_isBackEdge t a1 a2 M) 0 [some (.ref t), some (.int a1), some (.int a2)] [] M := by
  unfold ff_M_isBackEdge
  refine im_gd (fun hg => ?_)
  refine im_aload_n 0 0 rfl rfl ?_
  refine im_iload_n 1 1 rfl rfl ?_
  refine im_iload_n 2 2 rfl rfl ?_
  refine im_ci (S := []) (fun _ hv => cpV (fr' := 4) (lo' := 85) (i := 3) (As := [.int a1, .int a2]) (S := []) (a := t) (c := 11) rfl lk_M_172 mw_M_leads mv_M_leads rfl ⟨by decide, rfl⟩ rfl rfl rfl (gd_some hv).1 (sp_M_leads G hv)) (fun x1 => ?_)
  refine im_if_eq 4 6 22 rfl (by decide) ?_ ?_
  · refine im_iconst 12 22 rfl rfl ?_
    exact im_end rfl (wp_zreturn 13 23 (ty := .boolean) rfl (by first | exact nz_0 | exact nz_1) rfl)
  · refine im_aload_n 5 9 rfl rfl ?_
    refine im_iload_n 6 10 rfl rfl ?_
    refine im_iload_n 7 11 rfl rfl ?_
    refine im_cWi (S := []) (fun _ _ hv => cpV (fr' := 21) (lo' := 488) (i := 8) (As := [.int a2, .int a1]) (S := []) (a := t) (c := 11) rfl lk_M_169 mw_M_governs mv_M_governs rfl ⟨by decide, rfl⟩ rfl rfl rfl (gd_some hv).1 (sp_M_governs G hv)) (fun x2 M1 => ?_)
    refine im_if_eq 9 15 22 rfl (by decide) ?_ ?_
    · refine im_iconst 12 22 rfl rfl ?_
      exact im_end rfl (wp_zreturn 13 23 (ty := .boolean) rfl (by first | exact nz_0 | exact nz_1) rfl)
    · refine im_iconst 10 18 rfl rfl ?_
      refine im_goto 11 19 23 rfl (by decide) ?_
      exact im_end rfl (wp_zreturn 13 23 (ty := .boolean) rfl (by first | exact nz_0 | exact nz_1) rfl)

theorem sp_M_isBackEdge (G : gl_T) {t : Nat} {a1 : Int32} {a2 : Int32} {M : mm_T} {y : Int32 × mm_T} (h : ff_M_isBackEdge t a1 a2 M = some y) : sp_S mi_M_isBackEdge 22 510 G [.ref t, .int a1, .int a2] M (sw_i y).1 (sw_i y).2 := sp_of mo_M_isBackEdge mw_M_isBackEdge (Or.inl (by decide +kernel)) rfl rfl (Or.inl rfl) (ip_M_isBackEdge G t a1 a2 M y h)

set_option maxRecDepth 100000 in
set_option maxHeartbeats 4000000 in
theorem li_M_isHead_2 (G : gl_T) (M0 : mm_T) (p0 : Nat) (p1 : Int32) : ∀ (fu : Nat) (q2 : Int32) (N : mm_T), im_I mi_M_isHead 23 532 G M0 sw_i (lf_M_isHead_2 p0 p1 fu q2 N) 2 [some (.ref p0), some (.int p1), some (.int q2)] [] N := by
  intro fu
  induction fu with
  | zero => intro _ _; exact im_none
  | succ fu ih =>
    intro q2 N
    show im_I mi_M_isHead 23 532 G M0 sw_i (lb_M_isHead_2 p0 p1 (lf_M_isHead_2 p0 p1 fu) q2 N) 2 [some (.ref p0), some (.int p1), some (.int q2)] [] N
    unfold lb_M_isHead_2
    refine im_iload_n 2 2 rfl rfl ?_
    refine im_aload_n 3 3 rfl rfl ?_
    refine im_iconst 4 4 rfl rfl ?_
    refine im_ci (S := [.int q2]) (fun _ hv => cpV (fr' := 1) (lo' := 20) (i := 5) (As := [.int (0 : Int32)]) (S := [.int q2]) (a := p0) (c := 11) rfl lk_M_61 mw_M_get mv_M_get rfl ⟨by decide, rfl⟩ rfl rfl rfl (gd_some hv).1 (sp_M_get G hv)) (fun x1 => ?_)
    refine im_ic_ge 6 8 28 rfl (by decide) ?_ ?_
    · refine im_iconst 16 28 rfl rfl ?_
      exact im_end rfl (wp_zreturn 17 29 (ty := .boolean) rfl (by first | exact nz_0 | exact nz_1) rfl)
    · refine im_aload_n 7 11 rfl rfl ?_
      refine im_iload_n 8 12 rfl rfl ?_
      refine im_iload_n 9 13 rfl rfl ?_
      refine im_cWi (S := []) (fun _ _ hv => cpV (fr' := 22) (lo' := 510) (i := 10) (As := [.int q2, .int p1]) (S := []) (a := p0) (c := 11) rfl lk_M_175 mw_M_isBackEdge mv_M_isBackEdge rfl ⟨by decide, rfl⟩ rfl rfl rfl (gd_some hv).1 (sp_M_isBackEdge G hv)) (fun x2 M1 => ?_)
      refine im_if_eq 11 17 22 rfl (by decide) ?_ ?_
      · refine im_iincL 14 22 (fun x3 => [some (.ref p0), some (.int p1), some (.int x3)]) rfl rfl rfl rfl (fun _ => rfl) (fun x3 => ?_)
        refine im_goto 15 25 2 rfl (by decide) ?_
        exact im_less _ (by simp [lv_le]) (ih x3 M1)
      · refine im_iconst 12 20 rfl rfl ?_
        exact im_end rfl (wp_zreturn 13 21 (ty := .boolean) rfl (by first | exact nz_0 | exact nz_1) rfl)

set_option maxRecDepth 100000 in
set_option maxHeartbeats 4000000 in
theorem ip_M_isHead (G : gl_T) (t : Nat) (a1 : Int32) (M : mm_T) : im_I mi_M_isHead 23 532 G M sw_i (ff_M_isHead t a1 M) 0 [some (.ref t), some (.int a1), none] [] M := by
  unfold ff_M_isHead
  refine im_gd (fun hg => ?_)
  refine im_iconst 0 0 rfl rfl ?_
  refine im_istore_n 1 1 [some (.ref t), some (.int a1), some (.int (0 : Int32))] rfl rfl rfl ?_
  refine im_less [some (.ref t), some (.int a1), some (.int (0 : Int32))] (by simp [lv_le]) ?_
  exact li_M_isHead_2 G M t a1 fu_L (0 : Int32) M

theorem sp_M_isHead (G : gl_T) {t : Nat} {a1 : Int32} {M : mm_T} {y : Int32 × mm_T} (h : ff_M_isHead t a1 M = some y) : sp_S mi_M_isHead 23 532 G [.ref t, .int a1] M (sw_i y).1 (sw_i y).2 := sp_of mo_M_isHead mw_M_isHead (Or.inl (by decide +kernel)) rfl rfl (Or.inl rfl) (ip_M_isHead G t a1 M y h)

set_option maxRecDepth 100000 in
set_option maxHeartbeats 4000000 in
theorem li_M_isInLoop_45 (G : gl_T) (M0 : mm_T) (k0 : mm_T → Option (Int32 × mm_T)) (p0 : Nat) (p2 : Int32) (p3 : Nat) (hk0 : ∀ (N : mm_T), im_I mi_M_isInLoop 24 554 G M0 sw_i (k0 N) 69 [some (.ref p0), none, some (.int p2), some (.ref p3), none] [] N) : ∀ (fu : Nat) (q4 : Int32) (N : mm_T), im_I mi_M_isInLoop 24 554 G M0 sw_i (lf_M_isInLoop_45 k0 p0 p2 p3 fu q4 N) 45 [some (.ref p0), none, some (.int p2), some (.ref p3), some (.int q4)] [] N := by
  intro fu
  induction fu with
  | zero => intro _ _; exact im_none
  | succ fu ih =>
    intro q4 N
    show im_I mi_M_isInLoop 24 554 G M0 sw_i (lb_M_isInLoop_45 k0 p0 p2 p3 (lf_M_isInLoop_45 k0 p0 p2 p3 fu) q4 N) 45 [some (.ref p0), none, some (.int p2), some (.ref p3), some (.int q4)] [] N
    unfold lb_M_isInLoop_45
    refine im_iload 28 45 rfl rfl ?_
    refine im_bipush 29 47 rfl rfl ?_
    refine im_ic_ge 30 49 69 rfl (by decide) ?_ ?_
    · exact im_less _ (by simp [lv_le]) (hk0 N)
    · refine im_aload_n 31 52 rfl rfl ?_
      refine im_iload 32 53 rfl rfl ?_
      refine im_aload_n 33 55 rfl rfl ?_
      refine im_getR 34 56 rfl fd_M_17 (by decide +kernel) (fun x4 => ?_)
      refine im_iload 35 59 rfl rfl ?_
      refine im_baload 36 61 rfl (fun x5 => ?_)
      refine im_bastore 37 62 rfl (fun M6 => ?_)
      refine im_iincL 38 63 (fun x6 => [some (.ref p0), none, some (.int p2), some (.ref p3), some (.int x6)]) rfl rfl rfl rfl (fun _ => rfl) (fun x6 => ?_)
      refine im_goto 39 66 45 rfl (by decide) ?_
      exact im_less _ (by simp [lv_le]) (ih x6 M6)

set_option maxRecDepth 100000 in
set_option maxHeartbeats 4000000 in
theorem li_M_isInLoop_72 (G : gl_T) (M0 : mm_T) (p0 : Nat) (p2 : Int32) (p3 : Nat) : ∀ (fu : Nat) (q4 : Int32) (N : mm_T), im_I mi_M_isInLoop 24 554 G M0 sw_i (lf_M_isInLoop_72 p0 p2 p3 fu q4 N) 72 [some (.ref p0), none, some (.int p2), some (.ref p3), some (.int q4)] [] N := by
  intro fu
  induction fu with
  | zero => intro _ _; exact im_none
  | succ fu ih =>
    intro q4 N
    show im_I mi_M_isInLoop 24 554 G M0 sw_i (lb_M_isInLoop_72 p0 p2 p3 (lf_M_isInLoop_72 p0 p2 p3 fu) q4 N) 72 [some (.ref p0), none, some (.int p2), some (.ref p3), some (.int q4)] [] N
    unfold lb_M_isInLoop_72
    refine im_iload 42 72 rfl rfl ?_
    refine im_aload_n 43 74 rfl rfl ?_
    refine im_iconst 44 75 rfl rfl ?_
    refine im_ci (S := [.int q4]) (fun _ hv => cpV (fr' := 1) (lo' := 20) (i := 45) (As := [.int (0 : Int32)]) (S := [.int q4]) (a := p0) (c := 11) rfl lk_M_61 mw_M_get mv_M_get rfl ⟨by decide, rfl⟩ rfl rfl rfl (gd_some hv).1 (sp_M_get G hv)) (fun x7 => ?_)
    refine im_ic_ge 46 79 107 rfl (by decide) ?_ ?_
    · refine im_iconst 60 107 rfl rfl ?_
      exact im_end rfl (wp_zreturn 61 108 (ty := .boolean) rfl (by first | exact nz_0 | exact nz_1) rfl)
    · refine im_aload_n 47 82 rfl rfl ?_
      refine im_iload 48 83 rfl rfl ?_
      refine im_baload 49 85 rfl (fun x8 => ?_)
      refine im_jp (fun j101 => ∀  (M8 : mm_T), im_I mi_M_isInLoop 24 554 G M0 sw_i (j101 M8) 101 [some (.ref p0), none, some (.int p2), some (.ref p3), some (.int q4)] [] M8) ?_ (fun j101 hj101 => ?_)
      · intro M8
        show im_I mi_M_isInLoop 24 554 G M0 sw_i (_) 101 [some (.ref p0), none, some (.int p2), some (.ref p3), some (.int q4)] [] M8
        refine im_iincL 58 101 (fun x9 => [some (.ref p0), none, some (.int p2), some (.ref p3), some (.int x9)]) rfl rfl rfl rfl (fun _ => rfl) (fun x9 => ?_)
        refine im_goto 59 104 72 rfl (by decide) ?_
        exact im_less _ (by simp [lv_le]) (ih x9 M8)
      refine im_if_eq 50 86 101 rfl (by decide) ?_ ?_
      · exact im_less _ (by simp [lv_le]) (hj101 N)
      · refine im_aload_n 51 89 rfl rfl ?_
        refine im_iload 52 90 rfl rfl ?_
        refine im_iload_n 53 92 rfl rfl ?_
        refine im_cWi (S := []) (fun _ _ hv => cpV (fr' := 22) (lo' := 510) (i := 54) (As := [.int q4, .int p2]) (S := []) (a := p0) (c := 11) rfl lk_M_175 mw_M_isBackEdge mv_M_isBackEdge rfl ⟨by decide, rfl⟩ rfl rfl rfl (gd_some hv).1 (sp_M_isBackEdge G hv)) (fun x10 M9 => ?_)
        refine im_if_eq 55 96 101 rfl (by decide) ?_ ?_
        · exact im_less _ (by simp [lv_le]) (hj101 M9)
        · refine im_iconst 56 99 rfl rfl ?_
          exact im_end rfl (wp_zreturn 57 100 (ty := .boolean) rfl (by first | exact nz_0 | exact nz_1) rfl)

set_option maxRecDepth 100000 in
set_option maxHeartbeats 4000000 in
theorem ip_M_isInLoop (G : gl_T) (t : Nat) (a1 : Int32) (a2 : Int32) (M : mm_T) : im_I mi_M_isInLoop 24 554 G M sw_i (ff_M_isInLoop t a1 a2 M) 0 [some (.ref t), some (.int a1), some (.int a2), none, none] [] M := by
  unfold ff_M_isInLoop
  refine im_gd (fun hg => ?_)
  refine im_aload_n 0 0 rfl rfl ?_
  refine im_iload_n 1 1 rfl rfl ?_
  refine im_cWi (S := []) (fun _ _ hv => cpV (fr' := 23) (lo' := 532) (i := 2) (As := [.int a2]) (S := []) (a := t) (c := 11) rfl lk_M_178 mw_M_isHead mv_M_isHead rfl ⟨by decide, rfl⟩ rfl rfl rfl (gd_some hv).1 (sp_M_isHead G hv)) (fun x1 M1 => ?_)
  refine im_if_eq 3 5 17 rfl (by decide) ?_ ?_
  · refine im_iconst 9 17 rfl rfl ?_
    exact im_end rfl (wp_zreturn 10 18 (ty := .boolean) rfl (by first | exact nz_0 | exact nz_1) rfl)
  · refine im_aload_n 4 8 rfl rfl ?_
    refine im_iload_n 5 9 rfl rfl ?_
    refine im_iconst 6 10 rfl rfl ?_
    refine im_cWi (S := []) (fun _ _ hv => cpV (fr' := 20) (lo' := 466) (i := 7) (As := [.int a1, .int (-1 : Int32)]) (S := []) (a := t) (c := 11) rfl lk_M_155 mw_M_isReached mv_M_isReached rfl ⟨by decide, rfl⟩ rfl rfl rfl (gd_some hv).1 (sp_M_isReached G hv)) (fun x2 M2 => ?_)
    refine im_if_ne 8 14 19 rfl (by decide) ?_ ?_
    · refine im_iload_n 11 19 rfl rfl ?_
      refine im_iload_n 12 20 rfl rfl ?_
      refine im_ic_ne 13 21 26 rfl (by decide) ?_ ?_
      · refine im_bipush 16 26 rfl rfl ?_
        refine im_newZ 17 28 rfl (tb_m 1909 (by decide +kernel) rfl) (fun x3 M3 => ?_)
        refine im_astore_n 18 30 [some (.ref t), some (.int a1), some (.int a2), some (.ref x3), none] rfl rfl rfl ?_
        refine im_aload_n 19 31 rfl rfl ?_
        refine im_cWv (S := []) (fun _ hv => cpV (fr' := 1) (lo' := 20) (i := 20) (As := []) (S := []) (a := t) (c := 11) rfl lk_M_114 mw_M_forgets mv_M_forgets rfl ⟨by decide, rfl⟩ rfl rfl rfl (gd_some hv).1 (sp_M_forgets G hv)) (fun M4 => ?_)
        refine im_aload_n 21 35 rfl rfl ?_
        refine im_iload_n 22 36 rfl rfl ?_
        refine im_iconst 23 37 rfl rfl ?_
        refine im_iload_n 24 38 rfl rfl ?_
        refine im_cWv (S := []) (fun _ hv => cpV (fr' := (6 + 13)) (lo' := (130 + 13 * 24)) (i := 25) (As := [.int a1, .int (-1 : Int32), .int a2]) (S := []) (a := t) (c := 11) rfl lk_M_111 mw_M_walks mv_M_walks rfl ⟨by decide, rfl⟩ rfl rfl rfl (sp_M_walks G 13 hv).1 (sp_M_walks G 13 hv).2) (fun M5 => ?_)
        refine im_iconst 26 42 rfl rfl ?_
        refine im_istore 27 43 [some (.ref t), some (.int a1), some (.int a2), some (.ref x3), some (.int (0 : Int32))] rfl rfl rfl ?_
        refine im_less [some (.ref t), none, some (.int a2), some (.ref x3), some (.int (0 : Int32))] (by simp [lv_le]) ?_
        refine li_M_isInLoop_45 G M _ t a2 x3 ?_ fu_L (0 : Int32) M5
        · intro M7
          show im_I mi_M_isInLoop 24 554 G M sw_i (_) 69 [some (.ref t), none, some (.int a2), some (.ref x3), none] [] M7
          refine im_iconst 40 69 rfl rfl ?_
          refine im_istore 41 70 [some (.ref t), none, some (.int a2), some (.ref x3), some (.int (0 : Int32))] rfl rfl rfl ?_
          refine im_less [some (.ref t), none, some (.int a2), some (.ref x3), some (.int (0 : Int32))] (by simp [lv_le]) ?_
          exact li_M_isInLoop_72 G M t a2 x3 fu_L (0 : Int32) M7
      · refine im_iconst 14 24 rfl rfl ?_
        exact im_end rfl (wp_zreturn 15 25 (ty := .boolean) rfl (by first | exact nz_0 | exact nz_1) rfl)
    · refine im_iconst 9 17 rfl rfl ?_
      exact im_end rfl (wp_zreturn 10 18 (ty := .boolean) rfl (by first | exact nz_0 | exact nz_1) rfl)

theorem sp_M_isInLoop (G : gl_T) {t : Nat} {a1 : Int32} {a2 : Int32} {M : mm_T} {y : Int32 × mm_T} (h : ff_M_isInLoop t a1 a2 M = some y) : sp_S mi_M_isInLoop 24 554 G [.ref t, .int a1, .int a2] M (sw_i y).1 (sw_i y).2 := sp_of mo_M_isInLoop mw_M_isInLoop (Or.inl (by decide +kernel)) rfl rfl (Or.inl rfl) (ip_M_isInLoop G t a1 a2 M y h)

set_option maxRecDepth 100000 in
set_option maxHeartbeats 4000000 in
theorem ip_M_meets (G : gl_T) (a1 : Int32) (a2 : Int32) (M : mm_T) : im_I mi_M_meets 1 20 G M (sh_i M) (ff_M_meets a1 a2 M) 0 [some (.int a1), some (.int a2)] [] M := by
  unfold ff_M_meets
  refine im_iload_n 0 0 rfl rfl ?_
  refine im_bipush 1 1 rfl rfl ?_
  refine im_ic_ne 2 3 8 rfl (by decide) ?_ ?_
  · refine im_iload_n 5 8 rfl rfl ?_
    refine im_bipush 6 9 rfl rfl ?_
    refine im_jp (fun j19 => im_I mi_M_meets 1 20 G M (sh_i M) (j19) 19 [some (.int a1), none] [] M) ?_ (fun j19 hj19 => ?_)
    · show im_I mi_M_meets 1 20 G M (sh_i M) (_) 19 [some (.int a1), none] [] M
      refine im_iload_n 11 19 rfl rfl ?_
      refine im_goto 12 20 24 rfl (by decide) ?_
      exact im_end rfl (wp_ireturn 14 24 rfl rfl)
    refine im_ic_eq 7 11 19 rfl (by decide) ?_ ?_
    · exact im_less _ (by simp [lv_le]) (hj19)
    · refine im_iload_n 8 14 rfl rfl ?_
      refine im_iload_n 9 15 rfl rfl ?_
      refine im_ic_ne 10 16 23 rfl (by decide) ?_ ?_
      · refine im_iconst 13 23 rfl rfl ?_
        exact im_end rfl (wp_ireturn 14 24 rfl rfl)
      · exact im_less _ (by simp [lv_le]) (hj19)
  · refine im_iload_n 3 6 rfl rfl ?_
    exact im_end rfl (wp_ireturn 4 7 rfl rfl)

theorem sp_M_meets (G : gl_T) {a1 : Int32} {a2 : Int32} {M : mm_T} {y : Int32} (h : ff_M_meets a1 a2 M = some y) : sp_S mi_M_meets 1 20 G [.int a1, .int a2] M ((sh_i M) y).1 ((sh_i M) y).2 := sp_of mo_M_meets mw_M_meets (Or.inl (by decide +kernel)) rfl rfl (Or.inl rfl) (ip_M_meets G a1 a2 M y h)

set_option maxRecDepth 100000 in
set_option maxHeartbeats 4000000 in
theorem ip_M_calculates (G : gl_T) (t : Nat) (a1 : Int32) (a2 : Int32) (a3 : Int32) (M : mm_T) : im_I mi_M_calculates 1 20 G M (sh_i M) (ff_M_calculates t a1 a2 a3 M) 0 [some (.ref t), some (.int a1), some (.int a2), some (.int a3)] [] M := by
  unfold ff_M_calculates
  refine im_gd (fun hg => ?_)
  refine im_iload_n 0 0 rfl rfl ?_
  refine im_bipush 1 1 rfl rfl ?_
  refine im_jp (fun j12 => im_I mi_M_calculates 1 20 G M (sh_i M) (j12) 12 [none, some (.int a1), none, some (.int a3)] [] M) ?_ (fun j12 hj12 => ?_)
  · show im_I mi_M_calculates 1 20 G M (sh_i M) (_) 12 [none, some (.int a1), none, some (.int a3)] [] M
    refine im_iload_n 6 12 rfl rfl ?_
    refine im_iconst 7 13 rfl rfl ?_
    refine im_jp (fun j22 => im_I mi_M_calculates 1 20 G M (sh_i M) (j22) 22 [none, none, none, none] [] M) ?_ (fun j22 hj22 => ?_)
    · show im_I mi_M_calculates 1 20 G M (sh_i M) (_) 22 [none, none, none, none] [] M
      refine im_iconst 12 22 rfl rfl ?_
      refine im_goto 13 23 28 rfl (by decide) ?_
      exact im_end rfl (wp_ireturn 15 28 rfl rfl)
    refine im_ic_eq 8 14 22 rfl (by decide) ?_ ?_
    · exact im_less _ (by simp [lv_le]) (hj22)
    · refine im_iload_n 9 17 rfl rfl ?_
      refine im_iconst 10 18 rfl rfl ?_
      refine im_ic_ne 11 19 26 rfl (by decide) ?_ ?_
      · refine im_bipush 14 26 rfl rfl ?_
        exact im_end rfl (wp_ireturn 15 28 rfl rfl)
      · exact im_less _ (by simp [lv_le]) (hj22)
  refine im_ic_eq 2 3 12 rfl (by decide) ?_ ?_
  · exact im_less _ (by simp [lv_le]) (hj12)
  · refine im_iload_n 3 6 rfl rfl ?_
    refine im_bipush 4 7 rfl rfl ?_
    refine im_ic_ne 5 9 29 rfl (by decide) ?_ ?_
    · refine im_iload_n 16 29 rfl rfl ?_
      refine im_iconst 17 30 rfl rfl ?_
      refine im_ic_eq 18 31 39 rfl (by decide) ?_ ?_
      · refine im_iconst 22 39 rfl rfl ?_
        exact im_end rfl (wp_ireturn 23 40 rfl rfl)
      · refine im_iload_n 19 34 rfl rfl ?_
        refine im_iconst 20 35 rfl rfl ?_
        refine im_ic_ne 21 36 41 rfl (by decide) ?_ ?_
        · refine im_iload_n 24 41 rfl rfl ?_
          refine im_ite (fun h1 => ?_) (fun h1 => ?_)
          · refine im_lookup 25 42 68 rfl (by decide) (off := 26) (by rw [h1]; rfl) (by decide) ?_
            refine im_iload_n 26 68 rfl rfl ?_
            refine im_iload_n 27 69 rfl rfl ?_
            refine im_iadd 28 70 rfl ?_
            refine im_sipush 29 71 rfl rfl ?_
            refine im_irem 30 74 rfl (fun x1 => ?_)
            exact im_end rfl (wp_ireturn 31 75 rfl rfl)
          refine im_ite (fun h2 => ?_) (fun h2 => ?_)
          · refine im_lookup 25 42 76 rfl (by decide) (off := 34) (by rw [h2]; rfl) (by decide) ?_
            refine im_iload_n 32 76 rfl rfl ?_
            refine im_iload_n 33 77 rfl rfl ?_
            refine im_isub 34 78 rfl ?_
            refine im_sipush 35 79 rfl rfl ?_
            refine im_iadd 36 82 rfl ?_
            refine im_sipush 37 83 rfl rfl ?_
            refine im_irem 38 86 rfl (fun x2 => ?_)
            exact im_end rfl (wp_ireturn 39 87 rfl rfl)
          refine im_lookup 25 42 88 rfl (by decide) (off := 46) ((lv_osw (k := 0) h1 rfl).trans ((lv_osw (k := 1) h2 rfl).trans rfl)) (by decide) ?_
          refine im_iload_n 40 88 rfl rfl ?_
          refine im_iload_n 41 89 rfl rfl ?_
          refine im_imul 42 90 rfl ?_
          refine im_sipush 43 91 rfl rfl ?_
          refine im_irem 44 94 rfl (fun x3 => ?_)
          exact im_end rfl (wp_ireturn 45 95 rfl rfl)
        · refine im_iconst 22 39 rfl rfl ?_
          exact im_end rfl (wp_ireturn 23 40 rfl rfl)
    · exact im_less _ (by simp [lv_le]) (hj12)

theorem sp_M_calculates (G : gl_T) {t : Nat} {a1 : Int32} {a2 : Int32} {a3 : Int32} {M : mm_T} {y : Int32} (h : ff_M_calculates t a1 a2 a3 M = some y) : sp_S mi_M_calculates 1 20 G [.ref t, .int a1, .int a2, .int a3] M ((sh_i M) y).1 ((sh_i M) y).2 := sp_of mo_M_calculates mw_M_calculates (Or.inl (by decide +kernel)) rfl rfl (Or.inl rfl) (ip_M_calculates G t a1 a2 a3 M y h)

set_option maxRecDepth 100000 in
set_option maxHeartbeats 4000000 in
theorem ip_M_given (G : gl_T) (t : Nat) (a1 : Int32) (M : mm_T) : im_I mi_M_given 3 63 G M (sh_i M) (ff_M_given t a1 M) 0 [some (.ref t), some (.int a1)] [] M := by
  unfold ff_M_given
  refine im_gd (fun hg => ?_)
  refine im_aload_n 0 0 rfl rfl ?_
  refine im_iload_n 1 1 rfl rfl ?_
  refine im_iconst 2 2 rfl rfl ?_
  refine im_ci (S := []) (fun _ hv => cpV (fr' := 2) (lo' := 41) (i := 3) (As := [.int a1, .int (0 : Int32)]) (S := []) (a := t) (c := 11) rfl lk_M_96 mw_M_it mv_M_it rfl ⟨by decide, rfl⟩ rfl rfl rfl (gd_some hv).1 (sp_M_it G hv)) (fun x1 => ?_)
  refine im_ite (fun h1 => ?_) (fun h1 => ?_)
  · refine im_lookup 4 6 32 rfl (by decide) (off := 26) (by rw [h1]; rfl) (by decide) ?_
    refine im_aload_n 5 32 rfl rfl ?_
    refine im_iload_n 6 33 rfl rfl ?_
    refine im_iconst 7 34 rfl rfl ?_
    refine im_ci (S := []) (fun _ hv => cpV (fr' := 2) (lo' := 41) (i := 8) (As := [.int a1, .int (2 : Int32)]) (S := []) (a := t) (c := 11) rfl lk_M_96 mw_M_it mv_M_it rfl ⟨by decide, rfl⟩ rfl rfl rfl (gd_some hv).1 (sp_M_it G hv)) (fun x2 => ?_)
    exact im_end rfl (wp_ireturn 9 38 rfl rfl)
  refine im_ite (fun h2 => ?_) (fun h2 => ?_)
  · refine im_lookup 4 6 39 rfl (by decide) (off := 33) (by rw [h2]; rfl) (by decide) ?_
    refine im_aload_n 10 39 rfl rfl ?_
    refine im_getR 11 40 rfl fd_M_26 (by decide +kernel) (fun x3 => ?_)
    refine im_aload_n 12 43 rfl rfl ?_
    refine im_iload_n 13 44 rfl rfl ?_
    refine im_iconst 14 45 rfl rfl ?_
    refine im_ci (S := [.ref x3]) (fun _ hv => cpV (fr' := 2) (lo' := 41) (i := 15) (As := [.int a1, .int (2 : Int32)]) (S := [.ref x3]) (a := t) (c := 11) rfl lk_M_96 mw_M_it mv_M_it rfl ⟨by decide, rfl⟩ rfl rfl rfl (gd_some hv).1 (sp_M_it G hv)) (fun x4 => ?_)
    refine im_iaload 16 49 rfl (fun x5 => ?_)
    exact im_end rfl (wp_ireturn 17 50 rfl rfl)
  refine im_lookup 4 6 51 rfl (by decide) (off := 45) ((lv_osw (k := 0) h1 rfl).trans ((lv_osw (k := 1) h2 rfl).trans rfl)) (by decide) ?_
  refine im_aload_n 18 51 rfl rfl ?_
  refine im_aload_n 19 52 rfl rfl ?_
  refine im_getR 20 53 rfl fd_M_26 (by decide +kernel) (fun x6 => ?_)
  refine im_aload_n 21 56 rfl rfl ?_
  refine im_iload_n 22 57 rfl rfl ?_
  refine im_iconst 23 58 rfl rfl ?_
  refine im_ci (S := [.ref x6, .ref t]) (fun _ hv => cpV (fr' := 2) (lo' := 41) (i := 24) (As := [.int a1, .int (2 : Int32)]) (S := [.ref x6, .ref t]) (a := t) (c := 11) rfl lk_M_96 mw_M_it mv_M_it rfl ⟨by decide, rfl⟩ rfl rfl rfl (gd_some hv).1 (sp_M_it G hv)) (fun x7 => ?_)
  refine im_iaload 25 62 rfl (fun x8 => ?_)
  refine im_aload_n 26 63 rfl rfl ?_
  refine im_iload_n 27 64 rfl rfl ?_
  refine im_iconst 28 65 rfl rfl ?_
  refine im_ci (S := [.int x8, .ref t]) (fun _ hv => cpV (fr' := 2) (lo' := 41) (i := 29) (As := [.int a1, .int (3 : Int32)]) (S := [.int x8, .ref t]) (a := t) (c := 11) rfl lk_M_96 mw_M_it mv_M_it rfl ⟨by decide, rfl⟩ rfl rfl rfl (gd_some hv).1 (sp_M_it G hv)) (fun x9 => ?_)
  refine im_aload_n 30 69 rfl rfl ?_
  refine im_getR 31 70 rfl fd_M_26 (by decide +kernel) (fun x10 => ?_)
  refine im_aload_n 32 73 rfl rfl ?_
  refine im_iload_n 33 74 rfl rfl ?_
  refine im_iconst 34 75 rfl rfl ?_
  refine im_ci (S := [.ref x10, .int x9, .int x8, .ref t]) (fun _ hv => cpV (fr' := 2) (lo' := 41) (i := 35) (As := [.int a1, .int (4 : Int32)]) (S := [.ref x10, .int x9, .int x8, .ref t]) (a := t) (c := 11) rfl lk_M_96 mw_M_it mv_M_it rfl ⟨by decide, rfl⟩ rfl rfl rfl (gd_some hv).1 (sp_M_it G hv)) (fun x11 => ?_)
  refine im_iaload 36 79 rfl (fun x12 => ?_)
  refine im_ci (S := []) (fun _ hv => cpV (fr' := 1) (lo' := 20) (i := 37) (As := [.int x8, .int x9, .int x12]) (S := []) (a := t) (c := 11) rfl lk_M_181 mw_M_calculates mv_M_calculates rfl ⟨by decide, rfl⟩ rfl rfl rfl (gd_some hv).1 (sp_M_calculates G hv)) (fun x13 => ?_)
  exact im_end rfl (wp_ireturn 38 83 rfl rfl)

theorem sp_M_given (G : gl_T) {t : Nat} {a1 : Int32} {M : mm_T} {y : Int32} (h : ff_M_given t a1 M = some y) : sp_S mi_M_given 3 63 G [.ref t, .int a1] M ((sh_i M) y).1 ((sh_i M) y).2 := sp_of mo_M_given mw_M_given (Or.inl (by decide +kernel)) rfl rfl (Or.inl rfl) (ip_M_given G t a1 M y h)

set_option maxRecDepth 100000 in
set_option maxHeartbeats 4000000 in
theorem li_M_comesTo_2 (G : gl_T) (M0 : mm_T) (k0 : mm_T → Option (mm_T)) (p0 : Nat) (p1 : Int32) (p2 : Int32) (hk0 : ∀ (N : mm_T), im_I mi_M_comesTo 4 86 G M0 sw_v (k0 N) 31 [some (.ref p0), some (.int p1), some (.int p2), none] [] N) : ∀ (fu : Nat) (q3 : Int32) (N : mm_T), im_I mi_M_comesTo 4 86 G M0 sw_v (lf_M_comesTo_2 k0 p0 p1 p2 fu q3 N) 2 [some (.ref p0), some (.int p1), some (.int p2), some (.int q3)] [] N := by
  intro fu
  induction fu with
  | zero => intro _ _; exact im_none
  | succ fu ih =>
    intro q3 N
    show im_I mi_M_comesTo 4 86 G M0 sw_v (lb_M_comesTo_2 k0 p0 p1 p2 (lf_M_comesTo_2 k0 p0 p1 p2 fu) q3 N) 2 [some (.ref p0), some (.int p1), some (.int p2), some (.int q3)] [] N
    unfold lb_M_comesTo_2
    refine im_iload_n 2 2 rfl rfl ?_
    refine im_bipush 3 3 rfl rfl ?_
    refine im_ic_ge 4 5 31 rfl (by decide) ?_ ?_
    · exact im_less _ (by simp [lv_le]) (hk0 N)
    · refine im_aload_n 5 8 rfl rfl ?_
      refine im_getR 6 9 rfl fd_M_26 (by decide +kernel) (fun x1 => ?_)
      refine im_iload_n 7 12 rfl rfl ?_
      refine im_aload_n 8 13 rfl rfl ?_
      refine im_getR 9 14 rfl fd_M_23 (by decide +kernel) (fun x2 => ?_)
      refine im_bipush 10 17 rfl rfl ?_
      refine im_iload_n 11 19 rfl rfl ?_
      refine im_imul 12 20 rfl ?_
      refine im_iload_n 13 21 rfl rfl ?_
      refine im_iadd 14 22 rfl ?_
      refine im_iaload 15 23 rfl (fun x3 => ?_)
      refine im_iastore 16 24 rfl (fun M1 => ?_)
      refine im_iincL 17 25 (fun x4 => [some (.ref p0), some (.int p1), some (.int p2), some (.int x4)]) rfl rfl rfl rfl (fun _ => rfl) (fun x4 => ?_)
      refine im_goto 18 28 2 rfl (by decide) ?_
      exact im_less _ (by simp [lv_le]) (ih x4 M1)

set_option maxRecDepth 100000 in
set_option maxHeartbeats 4000000 in
theorem li_M_comesTo_37 (G : gl_T) (M0 : mm_T) (p0 : Nat) (p2 : Int32) : ∀ (fu : Nat) (q3 : Int32) (N : mm_T), im_I mi_M_comesTo 4 86 G M0 sw_v (lf_M_comesTo_37 p0 p2 fu q3 N) 37 [some (.ref p0), none, some (.int p2), some (.int q3)] [] N := by
  intro fu
  induction fu with
  | zero => intro _ _; exact im_none
  | succ fu ih =>
    intro q3 N
    show im_I mi_M_comesTo 4 86 G M0 sw_v (lb_M_comesTo_37 p0 p2 (lf_M_comesTo_37 p0 p2 fu) q3 N) 37 [some (.ref p0), none, some (.int p2), some (.int q3)] [] N
    unfold lb_M_comesTo_37
    refine im_iload_n 23 37 rfl rfl ?_
    refine im_iload_n 24 38 rfl rfl ?_
    refine im_ic_ge 25 39 72 rfl (by decide) ?_ ?_
    · exact im_end rfl (wp_return 42 72 rfl rfl)
    · refine im_aload_n 26 42 rfl rfl ?_
      refine im_iload_n 27 43 rfl rfl ?_
      refine im_ci (S := []) (fun _ hv => cpV (fr' := 3) (lo' := 63) (i := 28) (As := [.int q3]) (S := []) (a := p0) (c := 11) rfl lk_M_99 mw_M_isDefinition mv_M_isDefinition rfl ⟨by decide, rfl⟩ rfl rfl rfl (gd_some hv).1 (sp_M_isDefinition G hv)) (fun x6 => ?_)
      refine im_jp (fun j66 => ∀  (M3 : mm_T), im_I mi_M_comesTo 4 86 G M0 sw_v (j66 M3) 66 [some (.ref p0), none, some (.int p2), some (.int q3)] [] M3) ?_ (fun j66 hj66 => ?_)
      · intro M3
        show im_I mi_M_comesTo 4 86 G M0 sw_v (_) 66 [some (.ref p0), none, some (.int p2), some (.int q3)] [] M3
        refine im_iincL 40 66 (fun x7 => [some (.ref p0), none, some (.int p2), some (.int x7)]) rfl rfl rfl rfl (fun _ => rfl) (fun x7 => ?_)
        refine im_goto 41 69 37 rfl (by decide) ?_
        exact im_less _ (by simp [lv_le]) (ih x7 M3)
      refine im_if_eq 29 47 66 rfl (by decide) ?_ ?_
      · exact im_less _ (by simp [lv_le]) (hj66 N)
      · refine im_aload_n 30 50 rfl rfl ?_
        refine im_getR 31 51 rfl fd_M_26 (by decide +kernel) (fun x8 => ?_)
        refine im_aload_n 32 54 rfl rfl ?_
        refine im_iload_n 33 55 rfl rfl ?_
        refine im_iconst 34 56 rfl rfl ?_
        refine im_ci (S := [.ref x8]) (fun _ hv => cpV (fr' := 2) (lo' := 41) (i := 35) (As := [.int q3, .int (1 : Int32)]) (S := [.ref x8]) (a := p0) (c := 11) rfl lk_M_96 mw_M_it mv_M_it rfl ⟨by decide, rfl⟩ rfl rfl rfl (gd_some hv).1 (sp_M_it G hv)) (fun x9 => ?_)
        refine im_aload_n 36 60 rfl rfl ?_
        refine im_iload_n 37 61 rfl rfl ?_
        refine im_ci (S := [.int x9, .ref x8]) (fun _ hv => cpV (fr' := 3) (lo' := 63) (i := 38) (As := [.int q3]) (S := [.int x9, .ref x8]) (a := p0) (c := 11) rfl lk_M_184 mw_M_given mv_M_given rfl ⟨by decide, rfl⟩ rfl rfl rfl (gd_some hv).1 (sp_M_given G hv)) (fun x10 => ?_)
        refine im_iastore 39 65 rfl (fun M4 => ?_)
        exact im_less _ (by simp [lv_le]) (hj66 M4)

set_option maxRecDepth 100000 in
set_option maxHeartbeats 4000000 in
theorem ip_M_comesTo (G : gl_T) (t : Nat) (a1 : Int32) (a2 : Int32) (M : mm_T) : im_I mi_M_comesTo 4 86 G M sw_v (ff_M_comesTo t a1 a2 M) 0 [some (.ref t), some (.int a1), some (.int a2), none] [] M := by
  unfold ff_M_comesTo
  refine im_gd (fun hg => ?_)
  refine im_iconst 0 0 rfl rfl ?_
  refine im_istore_n 1 1 [some (.ref t), some (.int a1), some (.int a2), some (.int (0 : Int32))] rfl rfl rfl ?_
  refine im_less [some (.ref t), some (.int a1), some (.int a2), some (.int (0 : Int32))] (by simp [lv_le]) ?_
  refine li_M_comesTo_2 G M _ t a1 a2 ?_ fu_L (0 : Int32) M
  · intro M2
    show im_I mi_M_comesTo 4 86 G M sw_v (_) 31 [some (.ref t), some (.int a1), some (.int a2), none] [] M2
    refine im_aload_n 19 31 rfl rfl ?_
    refine im_iload_n 20 32 rfl rfl ?_
    refine im_ci (S := []) (fun _ hv => cpV (fr' := 3) (lo' := 63) (i := 21) (As := [.int a1]) (S := []) (a := t) (c := 11) rfl lk_M_84 mw_M_firstOf mv_M_firstOf rfl ⟨by decide, rfl⟩ rfl rfl rfl (gd_some hv).1 (sp_M_firstOf G hv)) (fun x5 => ?_)
    refine im_istore_n 22 36 [some (.ref t), some (.int a1), some (.int a2), some (.int x5)] rfl rfl rfl ?_
    refine im_less [some (.ref t), none, some (.int a2), some (.int x5)] (by simp [lv_le]) ?_
    exact li_M_comesTo_37 G M t a2 fu_L x5 M2

theorem sp_M_comesTo (G : gl_T) {t : Nat} {a1 : Int32} {a2 : Int32} {M : mm_T} {y : mm_T} (h : ff_M_comesTo t a1 a2 M = some y) : sp_S mi_M_comesTo 4 86 G [.ref t, .int a1, .int a2] M (sw_v y).1 (sw_v y).2 := sp_of mo_M_comesTo mw_M_comesTo (Or.inl (by decide +kernel)) rfl rfl (Or.inl rfl) (ip_M_comesTo G t a1 a2 M y h)

set_option maxRecDepth 100000 in
set_option maxHeartbeats 4000000 in
theorem li_M_spreads_26 (G : gl_T) (M0 : mm_T) (k0 : Int32 → mm_T → Option (Int32 × mm_T)) (p0 : Nat) (p1 : Int32) (p3 : Int32) (hk0 : ∀ (z2 : Int32) (N : mm_T), im_I mi_M_spreads 5 109 G M0 sw_i (k0 z2 N) 101 [some (.ref p0), some (.int p1), some (.int z2), some (.int p3), none, none, none] [] N) : ∀ (fu : Nat) (q2 : Int32) (q4 : Int32) (N : mm_T), im_I mi_M_spreads 5 109 G M0 sw_i (lf_M_spreads_26 k0 p0 p1 p3 fu q2 q4 N) 26 [some (.ref p0), some (.int p1), some (.int q2), some (.int p3), some (.int q4), none, none] [] N := by
  intro fu
  induction fu with
  | zero => intro _ _ _; exact im_none
  | succ fu ih =>
    intro q2 q4 N
    show im_I mi_M_spreads 5 109 G M0 sw_i (lb_M_spreads_26 k0 p0 p1 p3 (lf_M_spreads_26 k0 p0 p1 p3 fu) q2 q4 N) 26 [some (.ref p0), some (.int p1), some (.int q2), some (.int p3), some (.int q4), none, none] [] N
    unfold lb_M_spreads_26
    refine im_iload 17 26 rfl rfl ?_
    refine im_bipush 18 28 rfl rfl ?_
    refine im_ic_ge 19 30 101 rfl (by decide) ?_ ?_
    · exact im_less _ (by simp [lv_le]) (hk0 q2 N)
    · refine im_bipush 20 33 rfl rfl ?_
      refine im_aload_n 21 35 rfl rfl ?_
      refine im_iload_n 22 36 rfl rfl ?_
      refine im_iload_n 23 37 rfl rfl ?_
      refine im_ci (S := [.int (8 : Int32)]) (fun _ hv => cpV (fr' := 3) (lo' := 63) (i := 24) (As := [.int p1, .int p3]) (S := [.int (8 : Int32)]) (a := p0) (c := 11) rfl lk_M_93 mw_M_way mv_M_way rfl ⟨by decide, rfl⟩ rfl rfl rfl (gd_some hv).1 (sp_M_way G hv)) (fun x3 => ?_)
      refine im_imul 25 41 rfl ?_
      refine im_iload 26 42 rfl rfl ?_
      refine im_iadd 27 44 rfl ?_
      refine im_letI (fun x4 => ?_)
      refine im_istore 28 45 [some (.ref p0), some (.int p1), some (.int q2), some (.int p3), some (.int q4), some (.int x4), none] rfl rfl rfl ?_
      refine im_aload_n 29 47 rfl rfl ?_
      refine im_getR 30 48 rfl fd_M_23 (by decide +kernel) (fun x5 => ?_)
      refine im_iload 31 51 rfl rfl ?_
      refine im_iaload 32 53 rfl (fun x6 => ?_)
      refine im_aload_n 33 54 rfl rfl ?_
      refine im_getR 34 55 rfl fd_M_26 (by decide +kernel) (fun x7 => ?_)
      refine im_iload 35 58 rfl rfl ?_
      refine im_iaload 36 60 rfl (fun x8 => ?_)
      refine im_ci (S := []) (fun _ hv => cpS (fr' := 1) (lo' := 20) (i := 37) (As := [.int x6, .int x8]) (S := []) rfl lk_M_190 mw_M_meets mv_M_meets rfl rfl rfl rfl (sp_M_meets G hv)) (fun x9 => ?_)
      refine im_istore 38 64 [some (.ref p0), some (.int p1), some (.int q2), some (.int p3), some (.int q4), some (.int x4), some (.int x9)] rfl rfl rfl ?_
      refine im_iload_n 39 66 rfl rfl ?_
      refine im_iload 40 67 rfl rfl ?_
      refine im_aload_n 41 69 rfl rfl ?_
      refine im_getR 42 70 rfl fd_M_23 (by decide +kernel) (fun x10 => ?_)
      refine im_iload 43 73 rfl rfl ?_
      refine im_iaload 44 75 rfl (fun x11 => ?_)
      refine im_jp (fun j84 => ∀ (x12 : Int32), im_I mi_M_spreads 5 109 G M0 sw_i (j84 x12) 84 [some (.ref p0), some (.int p1), none, some (.int p3), some (.int q4), some (.int x4), some (.int x9)] [.int x12, .int q2] N) ?_ (fun j84 hj84 => ?_)
      · intro x12
        show im_I mi_M_spreads 5 109 G M0 sw_i (_) 84 [some (.ref p0), some (.int p1), none, some (.int p3), some (.int q4), some (.int x4), some (.int x9)] [.int x12, .int q2] N
        refine im_ior 49 84 rfl ?_
        refine im_letI (fun x13 => ?_)
        refine im_istore_n 50 85 [some (.ref p0), some (.int p1), some (.int x13), some (.int p3), some (.int q4), some (.int x4), some (.int x9)] rfl rfl rfl ?_
        refine im_aload_n 51 86 rfl rfl ?_
        refine im_getR 52 87 rfl fd_M_23 (by decide +kernel) (fun x14 => ?_)
        refine im_iload 53 90 rfl rfl ?_
        refine im_iload 54 92 rfl rfl ?_
        refine im_iastore 55 94 rfl (fun M2 => ?_)
        refine im_iincL 56 95 (fun x15 => [some (.ref p0), some (.int p1), some (.int x13), some (.int p3), some (.int x15), some (.int x4), some (.int x9)]) rfl rfl rfl rfl (fun _ => rfl) (fun x15 => ?_)
        refine im_goto 57 98 26 rfl (by decide) ?_
        exact im_less _ (by simp [lv_le]) (ih x13 x15 M2)
      refine im_ic_eq 45 76 83 rfl (by decide) ?_ ?_
      · refine im_iconst 48 83 rfl rfl ?_
        exact im_less _ (by simp [lv_le]) (hj84 (0 : Int32))
      · refine im_iconst 46 79 rfl rfl ?_
        refine im_goto 47 80 84 rfl (by decide) ?_
        exact im_less _ (by simp [lv_le]) (hj84 (1 : Int32))

set_option maxRecDepth 100000 in
set_option maxHeartbeats 4000000 in
theorem li_M_spreads_14 (G : gl_T) (M0 : mm_T) (p0 : Nat) (p1 : Int32) : ∀ (fu : Nat) (q2 : Int32) (q3 : Int32) (N : mm_T), im_I mi_M_spreads 5 109 G M0 sw_i (lf_M_spreads_14 p0 p1 fu q2 q3 N) 14 [some (.ref p0), some (.int p1), some (.int q2), some (.int q3), none, none, none] [] N := by
  intro fu
  induction fu with
  | zero => intro _ _ _; exact im_none
  | succ fu ih =>
    intro q2 q3 N
    show im_I mi_M_spreads 5 109 G M0 sw_i (lb_M_spreads_14 p0 p1 (lf_M_spreads_14 p0 p1 fu) q2 q3 N) 14 [some (.ref p0), some (.int p1), some (.int q2), some (.int q3), none, none, none] [] N
    unfold lb_M_spreads_14
    refine im_iload_n 10 14 rfl rfl ?_
    refine im_aload_n 11 15 rfl rfl ?_
    refine im_iload_n 12 16 rfl rfl ?_
    refine im_ci (S := [.int q3]) (fun _ hv => cpV (fr' := 3) (lo' := 63) (i := 13) (As := [.int p1]) (S := [.int q3]) (a := p0) (c := 11) rfl lk_M_90 mw_M_ways mv_M_ways rfl ⟨by decide, rfl⟩ rfl rfl rfl (gd_some hv).1 (sp_M_ways G hv)) (fun x2 => ?_)
    refine im_ic_ge 14 20 107 rfl (by decide) ?_ ?_
    · refine im_iload_n 60 107 rfl rfl ?_
      exact im_endZ (fun _ => rfl) (fun hn => wp_zreturn 61 108 (ty := .boolean) rfl hn rfl)
    · refine im_iconst 15 23 rfl rfl ?_
      refine im_istore 16 24 [some (.ref p0), some (.int p1), some (.int q2), some (.int q3), some (.int (0 : Int32)), none, none] rfl rfl rfl ?_
      refine im_less [some (.ref p0), some (.int p1), some (.int q2), some (.int q3), some (.int (0 : Int32)), none, none] (by simp [lv_le]) ?_
      refine li_M_spreads_26 G M0 _ p0 p1 q3 ?_ fu_L q2 (0 : Int32) N
      · intro x16 M3
        show im_I mi_M_spreads 5 109 G M0 sw_i (_) 101 [some (.ref p0), some (.int p1), some (.int x16), some (.int q3), none, none, none] [] M3
        refine im_iincL 58 101 (fun x17 => [some (.ref p0), some (.int p1), some (.int x16), some (.int x17), none, none, none]) rfl rfl rfl rfl (fun _ => rfl) (fun x17 => ?_)
        refine im_goto 59 104 14 rfl (by decide) ?_
        exact im_less _ (by simp [lv_le]) (ih x16 x17 M3)

set_option maxRecDepth 100000 in
set_option maxHeartbeats 4000000 in
theorem ip_M_spreads (G : gl_T) (t : Nat) (a1 : Int32) (M : mm_T) : im_I mi_M_spreads 5 109 G M sw_i (ff_M_spreads t a1 M) 0 [some (.ref t), some (.int a1), none, none, none, none, none] [] M := by
  unfold ff_M_spreads
  refine im_gd (fun hg => ?_)
  refine im_iconst 0 0 rfl rfl ?_
  refine im_istore_n 1 1 [some (.ref t), some (.int a1), some (.int (0 : Int32)), none, none, none, none] rfl rfl rfl ?_
  refine im_aload_n 2 2 rfl rfl ?_
  refine im_iload_n 3 3 rfl rfl ?_
  refine im_aload_n 4 4 rfl rfl ?_
  refine im_iload_n 5 5 rfl rfl ?_
  refine im_ci (S := [.int a1, .ref t]) (fun _ hv => cpV (fr' := 4) (lo' := 86) (i := 6) (As := [.int a1]) (S := [.int a1, .ref t]) (a := t) (c := 11) rfl lk_M_87 mw_M_endOf mv_M_endOf rfl ⟨by decide, rfl⟩ rfl rfl rfl (gd_some hv).1 (sp_M_endOf G hv)) (fun x1 => ?_)
  refine im_cWv (S := []) (fun _ hv => cpV (fr' := 4) (lo' := 86) (i := 7) (As := [.int a1, .int x1]) (S := []) (a := t) (c := 11) rfl lk_M_187 mw_M_comesTo mv_M_comesTo rfl ⟨by decide, rfl⟩ rfl rfl rfl (gd_some hv).1 (sp_M_comesTo G hv)) (fun M1 => ?_)
  refine im_iconst 8 12 rfl rfl ?_
  refine im_istore_n 9 13 [some (.ref t), some (.int a1), some (.int (0 : Int32)), some (.int (0 : Int32)), none, none, none] rfl rfl rfl ?_
  refine im_less [some (.ref t), some (.int a1), some (.int (0 : Int32)), some (.int (0 : Int32)), none, none, none] (by simp [lv_le]) ?_
  exact li_M_spreads_14 G M t a1 fu_L (0 : Int32) (0 : Int32) M1

theorem sp_M_spreads (G : gl_T) {t : Nat} {a1 : Int32} {M : mm_T} {y : Int32 × mm_T} (h : ff_M_spreads t a1 M = some y) : sp_S mi_M_spreads 5 109 G [.ref t, .int a1] M (sw_i y).1 (sw_i y).2 := sp_of mo_M_spreads mw_M_spreads (Or.inl (by decide +kernel)) rfl rfl (Or.inl rfl) (ip_M_spreads G t a1 M y h)

