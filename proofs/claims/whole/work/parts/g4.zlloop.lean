set_option maxRecDepth 100000 in
set_option maxHeartbeats 4000000 in
theorem li_b {G : gl_T} {M0 : mm_T} {n : Nat} {xs : Nat → Int32} (hs : sc_H G n xs) (p1 p2 p3 : Nat) (rec : Int32 → mm_T → Option (Int32 × mm_T)) (ih : ∀ q4 N, im_I mi_Z_law 26 601 G M0 sw_i (rec q4 N) 23 [some (.ref (st_B + 9000)), some (.ref p1), some (.ref p2), some (.ref p3), some (.int q4), none, none, none, none] [] N) (q4 : Int32) (N : mm_T) : im_I mi_Z_law 26 601 G M0 sw_i (lw_b n xs p1 p2 p3 rec q4 N) 23 [some (.ref (st_B + 9000)), some (.ref p1), some (.ref p2), some (.ref p3), some (.int q4), none, none, none, none] [] N := by
  unfold lw_b
  refine im_jp (fun jj => ∀ N, im_I mi_Z_law 26 601 G M0 sw_i (jj N) 3255 [some (.ref (st_B + 9000)), some (.ref p1), some (.ref p2), some (.ref p3), some (.int q4), none, none, none, none] [] N) ?_ (fun jj hj => ?_)
  · intro N
    show im_I mi_Z_law 26 601 G M0 sw_i (_) 3255 [some (.ref (st_B + 9000)), some (.ref p1), some (.ref p2), some (.ref p3), some (.int q4), none, none, none, none] [] N
    refine im_iincL 1898 3255 (fun x1 => [some (.ref (st_B + 9000)), some (.ref p1), some (.ref p2), some (.ref p3), some (.int x1), none, none, none, none]) rfl rfl rfl rfl (fun _ => rfl) (fun x1 => ?_)
    refine im_goto 1899 3258 23 (tz_47 19 rfl) (by decide) ?_
    exact im_less _ (by simp [lv_le]) (ih x1 N)
  refine im_iload 13 23 (tz_0 13 rfl) rfl ?_
  refine im_aload_n 14 25 (tz_0 14 rfl) rfl ?_
  refine im_slen 15 26 hs (tz_0 15 rfl) (fun x2 => ?_)
  refine im_bipush 16 27 (tz_0 16 rfl) rfl ?_
  refine im_isub 17 29 (tz_0 17 rfl) ?_
  refine im_ic_gt 18 30 3261 (tz_0 18 rfl) (by decide) ?_ ?_
  · refine im_iconst 1900 3261 (tz_47 20 rfl) rfl ?_
    exact im_end rfl (wp_zreturn 1901 3262 (ty := .boolean) rfl zn_1 (tz_47 21 rfl))
  · refine im_aload_n 19 33 (tz_0 19 rfl) rfl ?_
    refine im_iload 20 34 (tz_0 20 rfl) rfl ?_
    refine im_sld 21 36 hs (tz_0 21 rfl) (fun x3 => ?_)
    refine im_bipush 22 37 (tz_0 22 rfl) rfl ?_
    refine im_iand 23 39 (tz_0 23 rfl) ?_
    refine im_letI (fun x4 => ?_)
    refine im_ite (fun h1 => ?_) (fun h1 => ?_)
    · refine im_tabIn 24 40 292 (tz_0 24 rfl) (off := 252) (by rw [h1]; decide) (by rw [h1]; decide) (by rw [h1]; rfl) (by decide) ?_
      exact im_less _ (by simp [lv_le]) (li_c0 hs p1 p2 p3 q4 jj hj N)
    refine im_ite (fun h2 => ?_) (fun h2 => ?_)
    · refine im_tabIn 24 40 348 (tz_0 24 rfl) (off := 308) (by rw [h2]; decide) (by rw [h2]; decide) (by rw [h2]; rfl) (by decide) ?_
      exact im_less _ (by simp [lv_le]) (li_c1 hs p1 p2 p3 q4 jj hj N)
    refine im_ite (fun h3 => ?_) (fun h3 => ?_)
    · refine im_tabIn 24 40 404 (tz_0 24 rfl) (off := 364) (by rw [h3]; decide) (by rw [h3]; decide) (by rw [h3]; rfl) (by decide) ?_
      exact im_less _ (by simp [lv_le]) (li_c2 hs p1 p2 p3 q4 jj hj N)
    refine im_ite (fun h4 => ?_) (fun h4 => ?_)
    · refine im_tabIn 24 40 417 (tz_0 24 rfl) (off := 377) (by rw [h4]; decide) (by rw [h4]; decide) (by rw [h4]; rfl) (by decide) ?_
      exact im_less _ (by simp [lv_le]) (li_c3 hs p1 p2 p3 q4 jj hj N)
    refine im_ite (fun h5 => ?_) (fun h5 => ?_)
    · refine im_tabIn 24 40 430 (tz_0 24 rfl) (off := 390) (by rw [h5]; decide) (by rw [h5]; decide) (by rw [h5]; rfl) (by decide) ?_
      exact im_less _ (by simp [lv_le]) (li_c4 hs p1 p2 p3 q4 jj hj N)
    refine im_ite (fun h6 => ?_) (fun h6 => ?_)
    · refine im_tabIn 24 40 443 (tz_0 24 rfl) (off := 403) (by rw [h6]; decide) (by rw [h6]; decide) (by rw [h6]; rfl) (by decide) ?_
      exact im_less _ (by simp [lv_le]) (li_c5 hs p1 p2 p3 q4 jj hj N)
    refine im_ite (fun h7 => ?_) (fun h7 => ?_)
    · refine im_tabIn 24 40 456 (tz_0 24 rfl) (off := 416) (by rw [h7]; decide) (by rw [h7]; decide) (by rw [h7]; rfl) (by decide) ?_
      exact im_less _ (by simp [lv_le]) (li_c6 hs p1 p2 p3 q4 jj hj N)
    refine im_ite (fun h8 => ?_) (fun h8 => ?_)
    · refine im_tabIn 24 40 469 (tz_0 24 rfl) (off := 429) (by rw [h8]; decide) (by rw [h8]; decide) (by rw [h8]; rfl) (by decide) ?_
      exact im_less _ (by simp [lv_le]) (li_c7 hs p1 p2 p3 q4 jj hj N)
    refine im_ite (fun h9 => ?_) (fun h9 => ?_)
    · refine im_tabIn 24 40 525 (tz_0 24 rfl) (off := 485) (by rw [h9]; decide) (by rw [h9]; decide) (by rw [h9]; rfl) (by decide) ?_
      exact im_less _ (by simp [lv_le]) (li_c8 hs p1 p2 p3 q4 jj hj N)
    refine im_ite (fun h10 => ?_) (fun h10 => ?_)
    · refine im_tabIn 24 40 581 (tz_0 24 rfl) (off := 541) (by rw [h10]; decide) (by rw [h10]; decide) (by rw [h10]; rfl) (by decide) ?_
      exact im_less _ (by simp [lv_le]) (li_c9 hs p1 p2 p3 q4 jj hj N)
    refine im_ite (fun h11 => ?_) (fun h11 => ?_)
    · refine im_tabIn 24 40 637 (tz_0 24 rfl) (off := 597) (by rw [h11]; decide) (by rw [h11]; decide) (by rw [h11]; rfl) (by decide) ?_
      exact im_less _ (by simp [lv_le]) (li_c10 hs p1 p2 p3 q4 jj hj N)
    refine im_ite (fun h12 => ?_) (fun h12 => ?_)
    · refine im_tabIn 24 40 705 (tz_0 24 rfl) (off := 665) (by rw [h12]; decide) (by rw [h12]; decide) (by rw [h12]; rfl) (by decide) ?_
      exact im_less _ (by simp [lv_le]) (li_c11 hs p1 p2 p3 q4 jj hj N)
    refine im_ite (fun h13 => ?_) (fun h13 => ?_)
    · refine im_tabIn 24 40 761 (tz_0 24 rfl) (off := 721) (by rw [h13]; decide) (by rw [h13]; decide) (by rw [h13]; rfl) (by decide) ?_
      exact im_less _ (by simp [lv_le]) (li_c12 hs p1 p2 p3 q4 jj hj N)
    refine im_ite (fun h14 => ?_) (fun h14 => ?_)
    · refine im_tabIn 24 40 824 (tz_0 24 rfl) (off := 784) (by rw [h14]; decide) (by rw [h14]; decide) (by rw [h14]; rfl) (by decide) ?_
      exact im_less _ (by simp [lv_le]) (li_c13 hs p1 p2 p3 q4 jj hj N)
    refine im_ite (fun h15 => ?_) (fun h15 => ?_)
    · refine im_tabIn 24 40 880 (tz_0 24 rfl) (off := 840) (by rw [h15]; decide) (by rw [h15]; decide) (by rw [h15]; rfl) (by decide) ?_
      exact im_less _ (by simp [lv_le]) (li_c14 hs p1 p2 p3 q4 jj hj N)
    refine im_ite (fun h16 => ?_) (fun h16 => ?_)
    · refine im_tabIn 24 40 955 (tz_0 24 rfl) (off := 915) (by rw [h16]; decide) (by rw [h16]; decide) (by rw [h16]; rfl) (by decide) ?_
      exact im_less _ (by simp [lv_le]) (li_c15 hs p1 p2 p3 q4 jj hj N)
    refine im_ite (fun h17 => ?_) (fun h17 => ?_)
    · refine im_tabIn 24 40 1023 (tz_0 24 rfl) (off := 983) (by rw [h17]; decide) (by rw [h17]; decide) (by rw [h17]; rfl) (by decide) ?_
      exact im_less _ (by simp [lv_le]) (li_c16 hs p1 p2 p3 q4 jj hj N)
    refine im_ite (fun h18 => ?_) (fun h18 => ?_)
    · refine im_tabIn 24 40 1098 (tz_0 24 rfl) (off := 1058) (by rw [h18]; decide) (by rw [h18]; decide) (by rw [h18]; rfl) (by decide) ?_
      exact im_less _ (by simp [lv_le]) (li_c17 hs p1 p2 p3 q4 jj hj N)
    refine im_ite (fun h19 => ?_) (fun h19 => ?_)
    · refine im_tabIn 24 40 1154 (tz_0 24 rfl) (off := 1114) (by rw [h19]; decide) (by rw [h19]; decide) (by rw [h19]; rfl) (by decide) ?_
      exact im_less _ (by simp [lv_le]) (li_c18 hs p1 p2 p3 q4 jj hj N)
    refine im_ite (fun h20 => ?_) (fun h20 => ?_)
    · refine im_tabIn 24 40 1222 (tz_0 24 rfl) (off := 1182) (by rw [h20]; decide) (by rw [h20]; decide) (by rw [h20]; rfl) (by decide) ?_
      exact im_less _ (by simp [lv_le]) (li_c19 hs p1 p2 p3 q4 jj hj N)
    refine im_ite (fun h21 => ?_) (fun h21 => ?_)
    · refine im_tabIn 24 40 1297 (tz_0 24 rfl) (off := 1257) (by rw [h21]; decide) (by rw [h21]; decide) (by rw [h21]; rfl) (by decide) ?_
      exact im_less _ (by simp [lv_le]) (li_c20 hs p1 p2 p3 q4 jj hj N)
    refine im_ite (fun h22 => ?_) (fun h22 => ?_)
    · refine im_tabIn 24 40 1372 (tz_0 24 rfl) (off := 1332) (by rw [h22]; decide) (by rw [h22]; decide) (by rw [h22]; rfl) (by decide) ?_
      exact im_less _ (by simp [lv_le]) (li_c21 hs p1 p2 p3 q4 jj hj N)
    refine im_ite (fun h23 => ?_) (fun h23 => ?_)
    · refine im_tabIn 24 40 1428 (tz_0 24 rfl) (off := 1388) (by rw [h23]; decide) (by rw [h23]; decide) (by rw [h23]; rfl) (by decide) ?_
      exact im_less _ (by simp [lv_le]) (li_c22 hs p1 p2 p3 q4 jj hj N)
    refine im_ite (fun h24 => ?_) (fun h24 => ?_)
    · refine im_tabIn 24 40 1491 (tz_0 24 rfl) (off := 1451) (by rw [h24]; decide) (by rw [h24]; decide) (by rw [h24]; rfl) (by decide) ?_
      exact im_less _ (by simp [lv_le]) (li_c23 hs p1 p2 p3 q4 jj hj N)
    refine im_ite (fun h25 => ?_) (fun h25 => ?_)
    · refine im_tabIn 24 40 1504 (tz_0 24 rfl) (off := 1464) (by rw [h25]; decide) (by rw [h25]; decide) (by rw [h25]; rfl) (by decide) ?_
      exact im_less _ (by simp [lv_le]) (li_c24 hs p1 p2 p3 q4 jj hj N)
    refine im_ite (fun h26 => ?_) (fun h26 => ?_)
    · refine im_tabIn 24 40 1517 (tz_0 24 rfl) (off := 1477) (by rw [h26]; decide) (by rw [h26]; decide) (by rw [h26]; rfl) (by decide) ?_
      exact im_less _ (by simp [lv_le]) (li_c25 hs p1 p2 p3 q4 jj hj N)
    refine im_ite (fun h27 => ?_) (fun h27 => ?_)
    · refine im_tabIn 24 40 1592 (tz_0 24 rfl) (off := 1552) (by rw [h27]; decide) (by rw [h27]; decide) (by rw [h27]; rfl) (by decide) ?_
      exact im_less _ (by simp [lv_le]) (li_c26 hs p1 p2 p3 q4 jj hj N)
    refine im_ite (fun h28 => ?_) (fun h28 => ?_)
    · refine im_tabIn 24 40 1605 (tz_0 24 rfl) (off := 1565) (by rw [h28]; decide) (by rw [h28]; decide) (by rw [h28]; rfl) (by decide) ?_
      exact im_less _ (by simp [lv_le]) (li_c27 hs p1 p2 p3 q4 jj hj N)
    refine im_ite (fun h29 => ?_) (fun h29 => ?_)
    · refine im_tabIn 24 40 1668 (tz_0 24 rfl) (off := 1628) (by rw [h29]; decide) (by rw [h29]; decide) (by rw [h29]; rfl) (by decide) ?_
      exact im_less _ (by simp [lv_le]) (li_c28 hs p1 p2 p3 q4 jj hj N)
    refine im_ite (fun h30 => ?_) (fun h30 => ?_)
    · refine im_tabIn 24 40 1681 (tz_0 24 rfl) (off := 1641) (by rw [h30]; decide) (by rw [h30]; decide) (by rw [h30]; rfl) (by decide) ?_
      exact im_less _ (by simp [lv_le]) (li_c29 hs p1 p2 p3 q4 jj hj N)
    refine im_ite (fun h31 => ?_) (fun h31 => ?_)
    · refine im_tabIn 24 40 1737 (tz_0 24 rfl) (off := 1697) (by rw [h31]; decide) (by rw [h31]; decide) (by rw [h31]; rfl) (by decide) ?_
      exact im_less _ (by simp [lv_le]) (li_c30 hs p1 p2 p3 q4 jj hj N)
    refine im_ite (fun h32 => ?_) (fun h32 => ?_)
    · refine im_tabIn 24 40 1812 (tz_0 24 rfl) (off := 1772) (by rw [h32]; decide) (by rw [h32]; decide) (by rw [h32]; rfl) (by decide) ?_
      exact im_less _ (by simp [lv_le]) (li_c31 hs p1 p2 p3 q4 jj hj N)
    refine im_ite (fun h33 => ?_) (fun h33 => ?_)
    · refine im_tabIn 24 40 1868 (tz_0 24 rfl) (off := 1828) (by rw [h33]; decide) (by rw [h33]; decide) (by rw [h33]; rfl) (by decide) ?_
      exact im_less _ (by simp [lv_le]) (li_c32 hs p1 p2 p3 q4 jj hj N)
    refine im_ite (fun h34 => ?_) (fun h34 => ?_)
    · refine im_tabIn 24 40 1936 (tz_0 24 rfl) (off := 1896) (by rw [h34]; decide) (by rw [h34]; decide) (by rw [h34]; rfl) (by decide) ?_
      exact im_less _ (by simp [lv_le]) (li_c33 hs p1 p2 p3 q4 jj hj N)
    refine im_ite (fun h35 => ?_) (fun h35 => ?_)
    · refine im_tabIn 24 40 1949 (tz_0 24 rfl) (off := 1909) (by rw [h35]; decide) (by rw [h35]; decide) (by rw [h35]; rfl) (by decide) ?_
      exact im_less _ (by simp [lv_le]) (li_c34 hs p1 p2 p3 q4 jj hj N)
    refine im_ite (fun h36 => ?_) (fun h36 => ?_)
    · refine im_tabIn 24 40 2005 (tz_0 24 rfl) (off := 1965) (by rw [h36]; decide) (by rw [h36]; decide) (by rw [h36]; rfl) (by decide) ?_
      exact im_less _ (by simp [lv_le]) (li_c35 hs p1 p2 p3 q4 jj hj N)
    refine im_ite (fun h37 => ?_) (fun h37 => ?_)
    · refine im_tabIn 24 40 2061 (tz_0 24 rfl) (off := 2021) (by rw [h37]; decide) (by rw [h37]; decide) (by rw [h37]; rfl) (by decide) ?_
      exact im_less _ (by simp [lv_le]) (li_c36 hs p1 p2 p3 q4 jj hj N)
    refine im_ite (fun h38 => ?_) (fun h38 => ?_)
    · refine im_tabIn 24 40 2129 (tz_0 24 rfl) (off := 2089) (by rw [h38]; decide) (by rw [h38]; decide) (by rw [h38]; rfl) (by decide) ?_
      exact im_less _ (by simp [lv_le]) (li_c37 hs p1 p2 p3 q4 jj hj N)
    refine im_ite (fun h39 => ?_) (fun h39 => ?_)
    · refine im_tabIn 24 40 2185 (tz_0 24 rfl) (off := 2145) (by rw [h39]; decide) (by rw [h39]; decide) (by rw [h39]; rfl) (by decide) ?_
      exact im_less _ (by simp [lv_le]) (li_c38 hs p1 p2 p3 q4 jj hj N)
    refine im_ite (fun h40 => ?_) (fun h40 => ?_)
    · refine im_tabIn 24 40 2198 (tz_0 24 rfl) (off := 2158) (by rw [h40]; decide) (by rw [h40]; decide) (by rw [h40]; rfl) (by decide) ?_
      exact im_less _ (by simp [lv_le]) (li_c39 hs p1 p2 p3 q4 jj hj N)
    refine im_ite (fun h41 => ?_) (fun h41 => ?_)
    · refine im_tabIn 24 40 2254 (tz_0 24 rfl) (off := 2214) (by rw [h41]; decide) (by rw [h41]; decide) (by rw [h41]; rfl) (by decide) ?_
      exact im_less _ (by simp [lv_le]) (li_c40 hs p1 p2 p3 q4 jj hj N)
    refine im_ite (fun h42 => ?_) (fun h42 => ?_)
    · refine im_tabIn 24 40 2317 (tz_0 24 rfl) (off := 2277) (by rw [h42]; decide) (by rw [h42]; decide) (by rw [h42]; rfl) (by decide) ?_
      exact im_less _ (by simp [lv_le]) (li_c41 hs p1 p2 p3 q4 jj hj N)
    refine im_ite (fun h43 => ?_) (fun h43 => ?_)
    · refine im_tabIn 24 40 2385 (tz_0 24 rfl) (off := 2345) (by rw [h43]; decide) (by rw [h43]; decide) (by rw [h43]; rfl) (by decide) ?_
      exact im_less _ (by simp [lv_le]) (li_c42 hs p1 p2 p3 q4 jj hj N)
    refine im_ite (fun h44 => ?_) (fun h44 => ?_)
    · refine im_tabIn 24 40 2441 (tz_0 24 rfl) (off := 2401) (by rw [h44]; decide) (by rw [h44]; decide) (by rw [h44]; rfl) (by decide) ?_
      exact im_less _ (by simp [lv_le]) (li_c43 hs p1 p2 p3 q4 jj hj N)
    refine im_ite (fun h45 => ?_) (fun h45 => ?_)
    · refine im_tabIn 24 40 2509 (tz_0 24 rfl) (off := 2469) (by rw [h45]; decide) (by rw [h45]; decide) (by rw [h45]; rfl) (by decide) ?_
      exact im_less _ (by simp [lv_le]) (li_c44 hs p1 p2 p3 q4 jj hj N)
    refine im_ite (fun h46 => ?_) (fun h46 => ?_)
    · refine im_tabIn 24 40 2522 (tz_0 24 rfl) (off := 2482) (by rw [h46]; decide) (by rw [h46]; decide) (by rw [h46]; rfl) (by decide) ?_
      exact im_less _ (by simp [lv_le]) (li_c45 hs p1 p2 p3 q4 jj hj N)
    refine im_ite (fun h47 => ?_) (fun h47 => ?_)
    · refine im_tabIn 24 40 2565 (tz_0 24 rfl) (off := 2525) (by rw [h47]; decide) (by rw [h47]; decide) (by rw [h47]; rfl) (by decide) ?_
      exact im_less _ (by simp [lv_le]) (li_c46 hs p1 p2 p3 q4 jj hj N)
    refine im_ite (fun h48 => ?_) (fun h48 => ?_)
    · refine im_tabIn 24 40 2606 (tz_0 24 rfl) (off := 2566) (by rw [h48]; decide) (by rw [h48]; decide) (by rw [h48]; rfl) (by decide) ?_
      exact im_less _ (by simp [lv_le]) (li_c47 hs p1 p2 p3 q4 jj hj N)
    refine im_ite (fun h49 => ?_) (fun h49 => ?_)
    · refine im_tabIn 24 40 2698 (tz_0 24 rfl) (off := 2658) (by rw [h49]; decide) (by rw [h49]; decide) (by rw [h49]; rfl) (by decide) ?_
      exact im_less _ (by simp [lv_le]) (li_c48 hs p1 p2 p3 q4 jj hj N)
    refine im_ite (fun h50 => ?_) (fun h50 => ?_)
    · refine im_tabIn 24 40 2816 (tz_0 24 rfl) (off := 2776) (by rw [h50]; decide) (by rw [h50]; decide) (by rw [h50]; rfl) (by decide) ?_
      exact im_less _ (by simp [lv_le]) (li_c49 hs p1 p2 p3 q4 jj hj N)
    refine im_ite (fun h51 => ?_) (fun h51 => ?_)
    · refine im_tabIn 24 40 2872 (tz_0 24 rfl) (off := 2832) (by rw [h51]; decide) (by rw [h51]; decide) (by rw [h51]; rfl) (by decide) ?_
      exact im_less _ (by simp [lv_le]) (li_c50 hs p1 p2 p3 q4 jj hj N)
    refine im_ite (fun h52 => ?_) (fun h52 => ?_)
    · refine im_tabIn 24 40 2940 (tz_0 24 rfl) (off := 2900) (by rw [h52]; decide) (by rw [h52]; decide) (by rw [h52]; rfl) (by decide) ?_
      exact im_less _ (by simp [lv_le]) (li_c51 hs p1 p2 p3 q4 jj hj N)
    refine im_ite (fun h53 => ?_) (fun h53 => ?_)
    · refine im_tabIn 24 40 3032 (tz_0 24 rfl) (off := 2992) (by rw [h53]; decide) (by rw [h53]; decide) (by rw [h53]; rfl) (by decide) ?_
      exact im_less _ (by simp [lv_le]) (li_c52 hs p1 p2 p3 q4 jj hj N)
    refine im_ite (fun h54 => ?_) (fun h54 => ?_)
    · refine im_tabIn 24 40 3045 (tz_0 24 rfl) (off := 3005) (by rw [h54]; decide) (by rw [h54]; decide) (by rw [h54]; rfl) (by decide) ?_
      exact im_less _ (by simp [lv_le]) (li_c53 hs p1 p2 p3 q4 jj hj N)
    refine im_ite (fun h55 => ?_) (fun h55 => ?_)
    · refine im_tabIn 24 40 3058 (tz_0 24 rfl) (off := 3018) (by rw [h55]; decide) (by rw [h55]; decide) (by rw [h55]; rfl) (by decide) ?_
      exact im_less _ (by simp [lv_le]) (li_c54 hs p1 p2 p3 q4 jj hj N)
    refine im_ite (fun h56 => ?_) (fun h56 => ?_)
    · refine im_tabIn 24 40 3114 (tz_0 24 rfl) (off := 3074) (by rw [h56]; decide) (by rw [h56]; decide) (by rw [h56]; rfl) (by decide) ?_
      exact im_less _ (by simp [lv_le]) (li_c55 hs p1 p2 p3 q4 jj hj N)
    refine im_ite (fun h57 => ?_) (fun h57 => ?_)
    · refine im_tabIn 24 40 3139 (tz_0 24 rfl) (off := 3099) (by rw [h57]; decide) (by rw [h57]; decide) (by rw [h57]; rfl) (by decide) ?_
      exact im_less _ (by simp [lv_le]) (li_c56 hs p1 p2 p3 q4 jj hj N)
    refine im_ite (fun h58 => ?_) (fun h58 => ?_)
    · refine im_tabIn 24 40 3183 (tz_0 24 rfl) (off := 3143) (by rw [h58]; decide) (by rw [h58]; decide) (by rw [h58]; rfl) (by decide) ?_
      exact im_less _ (by simp [lv_le]) (li_c57 hs p1 p2 p3 q4 jj hj N)
    refine im_ite (fun h59 => ?_) (fun h59 => ?_)
    · refine im_tabIn 24 40 3219 (tz_0 24 rfl) (off := 3179) (by rw [h59]; decide) (by rw [h59]; decide) (by rw [h59]; rfl) (by decide) ?_
      exact im_less _ (by simp [lv_le]) (li_c58 hs p1 p2 p3 q4 jj hj N)
    refine im_tabOut 24 40 3255 (tz_0 24 rfl) (by have := lv_neT (k := 0) (a := 0) h1 rfl; have := lv_neT (k := 1) (a := 1) h2 rfl; have := lv_neT (k := 2) (a := 2) h3 rfl; have := lv_neT (k := 3) (a := 3) h4 rfl; have := lv_neT (k := 4) (a := 4) h5 rfl; have := lv_neT (k := 5) (a := 5) h6 rfl; have := lv_neT (k := 6) (a := 6) h7 rfl; have := lv_neT (k := 7) (a := 7) h8 rfl; have := lv_neT (k := 8) (a := 8) h9 rfl; have := lv_neT (k := 9) (a := 9) h10 rfl; have := lv_neT (k := 10) (a := 10) h11 rfl; have := lv_neT (k := 11) (a := 11) h12 rfl; have := lv_neT (k := 12) (a := 12) h13 rfl; have := lv_neT (k := 13) (a := 13) h14 rfl; have := lv_neT (k := 14) (a := 14) h15 rfl; have := lv_neT (k := 15) (a := 15) h16 rfl; have := lv_neT (k := 16) (a := 16) h17 rfl; have := lv_neT (k := 17) (a := 17) h18 rfl; have := lv_neT (k := 18) (a := 18) h19 rfl; have := lv_neT (k := 19) (a := 19) h20 rfl; have := lv_neT (k := 20) (a := 20) h21 rfl; have := lv_neT (k := 21) (a := 21) h22 rfl; have := lv_neT (k := 22) (a := 22) h23 rfl; have := lv_neT (k := 23) (a := 23) h24 rfl; have := lv_neT (k := 24) (a := 24) h25 rfl; have := lv_neT (k := 25) (a := 25) h26 rfl; have := lv_neT (k := 26) (a := 26) h27 rfl; have := lv_neT (k := 27) (a := 27) h28 rfl; have := lv_neT (k := 28) (a := 28) h29 rfl; have := lv_neT (k := 29) (a := 29) h30 rfl; have := lv_neT (k := 30) (a := 30) h31 rfl; have := lv_neT (k := 31) (a := 31) h32 rfl; have := lv_neT (k := 32) (a := 32) h33 rfl; have := lv_neT (k := 33) (a := 33) h34 rfl; have := lv_neT (k := 34) (a := 34) h35 rfl; have := lv_neT (k := 35) (a := 35) h36 rfl; have := lv_neT (k := 36) (a := 36) h37 rfl; have := lv_neT (k := 37) (a := 37) h38 rfl; have := lv_neT (k := 38) (a := 38) h39 rfl; have := lv_neT (k := 39) (a := 39) h40 rfl; have := lv_neT (k := 40) (a := 40) h41 rfl; have := lv_neT (k := 41) (a := 41) h42 rfl; have := lv_neT (k := 42) (a := 42) h43 rfl; have := lv_neT (k := 43) (a := 43) h44 rfl; have := lv_neT (k := 44) (a := 44) h45 rfl; have := lv_neT (k := 45) (a := 45) h46 rfl; have := lv_neT (k := 46) (a := 46) h47 rfl; have := lv_neT (k := 47) (a := 47) h48 rfl; have := lv_neT (k := 48) (a := 48) h49 rfl; have := lv_neT (k := 49) (a := 49) h50 rfl; have := lv_neT (k := 50) (a := 50) h51 rfl; have := lv_neT (k := 51) (a := 51) h52 rfl; have := lv_neT (k := 52) (a := 52) h53 rfl; have := lv_neT (k := 53) (a := 53) h54 rfl; have := lv_neT (k := 54) (a := 54) h55 rfl; have := lv_neT (k := 55) (a := 55) h56 rfl; have := lv_neT (k := 56) (a := 56) h57 rfl; have := lv_neT (k := 57) (a := 57) h58 rfl; have := lv_neT (k := 58) (a := 58) h59 rfl; omega) (by decide) ?_
    exact im_less _ (by simp [lv_le]) (hj N)
theorem li_f {G : gl_T} {M0 : mm_T} {n : Nat} {xs : Nat → Int32} (hs : sc_H G n xs) (p1 p2 p3 : Nat) : ∀ (fu : Nat) (q4 : Int32) (N : mm_T), im_I mi_Z_law 26 601 G M0 sw_i (lw_f n xs p1 p2 p3 fu q4 N) 23 [some (.ref (st_B + 9000)), some (.ref p1), some (.ref p2), some (.ref p3), some (.int q4), none, none, none, none] [] N := by
  intro fu
  induction fu with
  | zero => intro _ _; exact im_none
  | succ fu ih => intro q4 N; exact li_b hs p1 p2 p3 _ ih q4 N
set_option maxRecDepth 100000 in
set_option maxHeartbeats 4000000 in
theorem ip_Z_law {G : gl_T} {M0 : mm_T} {n : Nat} {xs : Nat → Int32} (hs : sc_H G n xs) (M : mm_T) (k0 : Nat → Nat → Nat → Int32 → mm_T → Option (Int32 × mm_T)) (hk : ∀ p1 p2 p3 q4 N, im_I mi_Z_law 26 601 G M0 sw_i (k0 p1 p2 p3 q4 N) 23 [some (.ref (st_B + 9000)), some (.ref p1), some (.ref p2), some (.ref p3), some (.int q4), none, none, none, none] [] N) : im_I mi_Z_law 26 601 G M0 sw_i (lw_e M k0) 0 [some (.ref (st_B + 9000)), none, none, none, none, none, none, none, none] [] M := by
  unfold lw_e
  refine im_new 0 0 (tz_0 0 rfl) nw_Z_8 (fun x1 M1 => ?_)
  refine im_dup 1 3 (tz_0 1 rfl) rfl ?_
  refine im_cWv (S := [.ref x1]) (fun _ hv => cpI (fr' := 10) (lo' := 285) (i := 2) (As := []) (S := [.ref x1]) (a := x1) (tz_0 2 rfl) lk_Z_151 mw_D_init mv_D_init rfl ⟨rfl, rfl⟩ rfl rfl rfl (gd_in (gd_some hv).1 (by decide)) (sp_D_init G hv)) (fun M2 => ?_)
  refine im_astore_n 3 7 [some (.ref (st_B + 9000)), some (.ref x1), none, none, none, none, none, none, none] rfl rfl rfl ?_
  refine im_new 4 8 (tz_0 4 rfl) nw_Z_152 (fun x2 M3 => ?_)
  refine im_dup 5 11 (tz_0 5 rfl) rfl ?_
  refine im_cWv (S := [.ref x2]) (fun _ hv => cpI (fr' := 5) (lo' := 117) (i := 6) (As := []) (S := [.ref x2]) (a := x2) (tz_0 6 rfl) lk_Z_154 mw_M_init mv_M_init rfl ⟨rfl, rfl⟩ rfl rfl rfl (gd_in (gd_some hv).1 (by decide)) (sp_M_init G hv)) (fun M4 => ?_)
  refine im_astore_n 7 15 [some (.ref (st_B + 9000)), some (.ref x1), some (.ref x2), none, none, none, none, none, none] rfl rfl rfl ?_
  refine im_iconst 8 16 (tz_0 8 rfl) rfl ?_
  refine im_newJ 9 17 (tz_0 9 rfl) (tb_m 340 (by decide +kernel) rfl) (fun x3 M5 => ?_)
  refine im_astore_n 10 19 [some (.ref (st_B + 9000)), some (.ref x1), some (.ref x2), some (.ref x3), none, none, none, none, none] rfl rfl rfl ?_
  refine im_iconst 11 20 (tz_0 11 rfl) rfl ?_
  refine im_istore 12 21 [some (.ref (st_B + 9000)), some (.ref x1), some (.ref x2), some (.ref x3), some (.int (0 : Int32)), none, none, none, none] rfl rfl rfl ?_
  exact im_less _ (by simp [lv_le]) (hk x1 x2 x3 (0 : Int32) M5)
theorem iq_Z_law {G : gl_T} {M0 : mm_T} {n : Nat} {xs : Nat → Int32} (hs : sc_H G n xs) (M : mm_T) : im_I mi_Z_law 26 601 G M0 sw_i (ff_Z_law n xs M) 0 [some (.ref (st_B + 9000)), none, none, none, none, none, none, none, none] [] M := ip_Z_law hs M _ (fun p1 p2 p3 q4 N => li_f hs p1 p2 p3 1000 q4 N)
