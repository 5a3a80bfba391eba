theorem nz_0 : narrow .boolean (.int 0) = .int 0 := rfl
theorem nz_1 : narrow .boolean (.int 1) = .int 1 := rfl
set_option maxRecDepth 100000 in
set_option maxHeartbeats 4000000 in
theorem ip_P_init (G : gl_T) (t : Nat) (M : mm_T) : im_I mi_P_init 1 20 G M sw_v (ff_P_init t M) 0 [some (.ref t)] [] M := by
  unfold ff_P_init
  refine im_gd (fun hg => ?_)
  refine im_aload_n 0 0 rfl rfl ?_
  refine im_objInit 1 1 ob_P_3 rfl (gd_in hg (by decide)) rfl rfl rfl ?_
  refine im_aload_n 2 4 rfl rfl ?_
  refine im_bipush 3 5 rfl rfl ?_
  refine im_newI 4 7 rfl (tb_m 218 (by decide +kernel) rfl) (fun x1 M1 => ?_)
  refine im_putR 5 9 rfl fd_P_9 (Or.inr ⟨rfl, rfl⟩) (by decide +kernel) (fun M2 => ?_)
  refine im_aload_n 6 12 rfl rfl ?_
  refine im_bipush 7 13 rfl rfl ?_
  refine im_newI 8 15 rfl (tb_m 218 (by decide +kernel) rfl) (fun x2 M3 => ?_)
  refine im_putR 9 17 rfl fd_P_15 (Or.inr ⟨rfl, rfl⟩) (by decide +kernel) (fun M4 => ?_)
  refine im_aload_n 10 20 rfl rfl ?_
  refine im_bipush 11 21 rfl rfl ?_
  refine im_newI 12 23 rfl (tb_m 218 (by decide +kernel) rfl) (fun x3 M5 => ?_)
  refine im_putR 13 25 rfl fd_P_18 (Or.inr ⟨rfl, rfl⟩) (by decide +kernel) (fun M6 => ?_)
  refine im_aload_n 14 28 rfl rfl ?_
  refine im_bipush 15 29 rfl rfl ?_
  refine im_newI 16 31 rfl (tb_m 218 (by decide +kernel) rfl) (fun x4 M7 => ?_)
  refine im_putR 17 33 rfl fd_P_21 (Or.inr ⟨rfl, rfl⟩) (by decide +kernel) (fun M8 => ?_)
  refine im_aload_n 18 36 rfl rfl ?_
  refine im_bipush 19 37 rfl rfl ?_
  refine im_newI 20 39 rfl (tb_m 218 (by decide +kernel) rfl) (fun x5 M9 => ?_)
  refine im_putR 21 41 rfl fd_P_24 (Or.inr ⟨rfl, rfl⟩) (by decide +kernel) (fun M10 => ?_)
  refine im_aload_n 22 44 rfl rfl ?_
  refine im_bipush 23 45 rfl rfl ?_
  refine im_newI 24 47 rfl (tb_m 218 (by decide +kernel) rfl) (fun x6 M11 => ?_)
  refine im_putR 25 49 rfl fd_P_27 (Or.inr ⟨rfl, rfl⟩) (by decide +kernel) (fun M12 => ?_)
  exact im_end rfl (wp_return 26 52 rfl rfl)

theorem sp_P_init (G : gl_T) {t : Nat} {M : mm_T} {y : mm_T} (h : ff_P_init t M = some y) : sp_S mi_P_init 1 20 G [.ref t] M (sw_v y).1 (sw_v y).2 := sp_of mo_P_init mw_P_init (Or.inl (by decide +kernel)) rfl rfl (Or.inl rfl) (ip_P_init G t M y h)

set_option maxRecDepth 100000 in
set_option maxHeartbeats 4000000 in
theorem ip_S_init (G : gl_T) (t : Nat) (M : mm_T) : im_I mi_S_init 1 20 G M sw_v (ff_S_init t M) 0 [some (.ref t)] [] M := by
  unfold ff_S_init
  refine im_gd (fun hg => ?_)
  refine im_aload_n 0 0 rfl rfl ?_
  refine im_objInit 1 1 ob_S_3 rfl (gd_in hg (by decide)) rfl rfl rfl ?_
  refine im_aload_n 2 4 rfl rfl ?_
  refine im_sipush 3 5 rfl rfl ?_
  refine im_newI 4 8 rfl (tb_m 218 (by decide +kernel) rfl) (fun x1 M1 => ?_)
  refine im_putR 5 10 rfl fd_S_9 (Or.inr ⟨rfl, rfl⟩) (by decide +kernel) (fun M2 => ?_)
  refine im_aload_n 6 13 rfl rfl ?_
  refine im_iconst 7 14 rfl rfl ?_
  refine im_putI 8 15 rfl fd_S_15 (Or.inr ⟨rfl, rfl⟩) (by decide +kernel) (fun M3 => ?_)
  refine im_aload_n 9 18 rfl rfl ?_
  refine im_bipush 10 19 rfl rfl ?_
  refine im_newI 11 21 rfl (tb_m 218 (by decide +kernel) rfl) (fun x2 M4 => ?_)
  refine im_putR 12 23 rfl fd_S_19 (Or.inr ⟨rfl, rfl⟩) (by decide +kernel) (fun M5 => ?_)
  refine im_aload_n 13 26 rfl rfl ?_
  refine im_bipush 14 27 rfl rfl ?_
  refine im_newI 15 29 rfl (tb_m 218 (by decide +kernel) rfl) (fun x3 M6 => ?_)
  refine im_putR 16 31 rfl fd_S_22 (Or.inr ⟨rfl, rfl⟩) (by decide +kernel) (fun M7 => ?_)
  exact im_end rfl (wp_return 17 34 rfl rfl)

theorem sp_S_init (G : gl_T) {t : Nat} {M : mm_T} {y : mm_T} (h : ff_S_init t M = some y) : sp_S mi_S_init 1 20 G [.ref t] M (sw_v y).1 (sw_v y).2 := sp_of mo_S_init mw_S_init (Or.inl (by decide +kernel)) rfl rfl (Or.inl rfl) (ip_S_init G t M y h)

set_option maxRecDepth 100000 in
set_option maxHeartbeats 4000000 in
theorem ip_W_init (G : gl_T) (t : Nat) (M : mm_T) : im_I mi_W_init 1 20 G M sw_v (ff_W_init t M) 0 [some (.ref t)] [] M := by
  unfold ff_W_init
  refine im_gd (fun hg => ?_)
  refine im_aload_n 0 0 rfl rfl ?_
  refine im_objInit 1 1 ob_W_3 rfl (gd_in hg (by decide)) rfl rfl rfl ?_
  refine im_aload_n 2 4 rfl rfl ?_
  refine im_sipush 3 5 rfl rfl ?_
  refine im_newI 4 8 rfl (tb_m 218 (by decide +kernel) rfl) (fun x1 M1 => ?_)
  refine im_putR 5 10 rfl fd_W_9 (Or.inr ⟨rfl, rfl⟩) (by decide +kernel) (fun M2 => ?_)
  exact im_end rfl (wp_return 6 13 rfl rfl)

theorem sp_W_init (G : gl_T) {t : Nat} {M : mm_T} {y : mm_T} (h : ff_W_init t M = some y) : sp_S mi_W_init 1 20 G [.ref t] M (sw_v y).1 (sw_v y).2 := sp_of mo_W_init mw_W_init (Or.inl (by decide +kernel)) rfl rfl (Or.inl rfl) (ip_W_init G t M y h)

set_option maxRecDepth 100000 in
set_option maxHeartbeats 4000000 in
theorem ip_H_init (G : gl_T) (t : Nat) (M : mm_T) : im_I mi_H_init 1 20 G M sw_v (ff_H_init t M) 0 [some (.ref t)] [] M := by
  unfold ff_H_init
  refine im_gd (fun hg => ?_)
  refine im_aload_n 0 0 rfl rfl ?_
  refine im_objInit 1 1 ob_H_3 rfl (gd_in hg (by decide)) rfl rfl rfl ?_
  refine im_aload_n 2 4 rfl rfl ?_
  refine im_bipush 3 5 rfl rfl ?_
  refine im_newR 4 7 rfl (tb_m 278 (by decide +kernel) rfl) (fun x1 M1 => ?_)
  refine im_putR 5 10 rfl fd_H_11 (Or.inr ⟨rfl, rfl⟩) (by decide +kernel) (fun M2 => ?_)
  exact im_end rfl (wp_return 6 13 rfl rfl)

theorem sp_H_init (G : gl_T) {t : Nat} {M : mm_T} {y : mm_T} (h : ff_H_init t M = some y) : sp_S mi_H_init 1 20 G [.ref t] M (sw_v y).1 (sw_v y).2 := sp_of mo_H_init mw_H_init (Or.inl (by decide +kernel)) rfl rfl (Or.inl rfl) (ip_H_init G t M y h)

set_option maxRecDepth 100000 in
set_option maxHeartbeats 4000000 in
theorem ip_G_init (G : gl_T) (t : Nat) (M : mm_T) : im_I mi_G_init 1 20 G M sw_v (ff_G_init t M) 0 [some (.ref t)] [] M := by
  unfold ff_G_init
  refine im_gd (fun hg => ?_)
  refine im_aload_n 0 0 rfl rfl ?_
  refine im_objInit 1 1 ob_G_3 rfl (gd_in hg (by decide)) rfl rfl rfl ?_
  refine im_aload_n 2 4 rfl rfl ?_
  refine im_bipush 3 5 rfl rfl ?_
  refine im_newI 4 7 rfl (tb_m 218 (by decide +kernel) rfl) (fun x1 M1 => ?_)
  refine im_putR 5 9 rfl fd_G_9 (Or.inr ⟨rfl, rfl⟩) (by decide +kernel) (fun M2 => ?_)
  refine im_aload_n 6 12 rfl rfl ?_
  refine im_bipush 7 13 rfl rfl ?_
  refine im_newI 8 15 rfl (tb_m 218 (by decide +kernel) rfl) (fun x2 M3 => ?_)
  refine im_putR 9 17 rfl fd_G_15 (Or.inr ⟨rfl, rfl⟩) (by decide +kernel) (fun M4 => ?_)
  refine im_aload_n 10 20 rfl rfl ?_
  refine im_bipush 11 21 rfl rfl ?_
  refine im_newI 12 23 rfl (tb_m 218 (by decide +kernel) rfl) (fun x3 M5 => ?_)
  refine im_putR 13 25 rfl fd_G_18 (Or.inr ⟨rfl, rfl⟩) (by decide +kernel) (fun M6 => ?_)
  refine im_aload_n 14 28 rfl rfl ?_
  refine im_bipush 15 29 rfl rfl ?_
  refine im_newI 16 31 rfl (tb_m 218 (by decide +kernel) rfl) (fun x4 M7 => ?_)
  refine im_putR 17 33 rfl fd_G_21 (Or.inr ⟨rfl, rfl⟩) (by decide +kernel) (fun M8 => ?_)
  refine im_aload_n 18 36 rfl rfl ?_
  refine im_bipush 19 37 rfl rfl ?_
  refine im_newI 20 39 rfl (tb_m 218 (by decide +kernel) rfl) (fun x5 M9 => ?_)
  refine im_putR 21 41 rfl fd_G_24 (Or.inr ⟨rfl, rfl⟩) (by decide +kernel) (fun M10 => ?_)
  exact im_end rfl (wp_return 22 44 rfl rfl)

theorem sp_G_init (G : gl_T) {t : Nat} {M : mm_T} {y : mm_T} (h : ff_G_init t M = some y) : sp_S mi_G_init 1 20 G [.ref t] M (sw_v y).1 (sw_v y).2 := sp_of mo_G_init mw_G_init (Or.inl (by decide +kernel)) rfl rfl (Or.inl rfl) (ip_G_init G t M y h)

set_option maxRecDepth 100000 in
set_option maxHeartbeats 4000000 in
theorem ip_R_init (G : gl_T) (t : Nat) (M : mm_T) : im_I mi_R_init 1 20 G M sw_v (ff_R_init t M) 0 [some (.ref t)] [] M := by
  unfold ff_R_init
  refine im_gd (fun hg => ?_)
  refine im_aload_n 0 0 rfl rfl ?_
  refine im_objInit 1 1 ob_R_3 rfl (gd_in hg (by decide)) rfl rfl rfl ?_
  refine im_aload_n 2 4 rfl rfl ?_
  refine im_bipush 3 5 rfl rfl ?_
  refine im_newJ 4 7 rfl (tb_m 340 (by decide +kernel) rfl) (fun x1 M1 => ?_)
  refine im_putR 5 9 rfl fd_R_9 (Or.inr ⟨rfl, rfl⟩) (by decide +kernel) (fun M2 => ?_)
  refine im_aload_n 6 12 rfl rfl ?_
  refine im_bipush 7 13 rfl rfl ?_
  refine im_newI 8 15 rfl (tb_m 218 (by decide +kernel) rfl) (fun x2 M3 => ?_)
  refine im_putR 9 17 rfl fd_R_15 (Or.inr ⟨rfl, rfl⟩) (by decide +kernel) (fun M4 => ?_)
  refine im_aload_n 10 20 rfl rfl ?_
  refine im_bipush 11 21 rfl rfl ?_
  refine im_newJ 12 23 rfl (tb_m 340 (by decide +kernel) rfl) (fun x3 M5 => ?_)
  refine im_putR 13 25 rfl fd_R_19 (Or.inr ⟨rfl, rfl⟩) (by decide +kernel) (fun M6 => ?_)
  exact im_end rfl (wp_return 14 28 rfl rfl)

theorem sp_R_init (G : gl_T) {t : Nat} {M : mm_T} {y : mm_T} (h : ff_R_init t M = some y) : sp_S mi_R_init 1 20 G [.ref t] M (sw_v y).1 (sw_v y).2 := sp_of mo_R_init mw_R_init (Or.inl (by decide +kernel)) rfl rfl (Or.inl rfl) (ip_R_init G t M y h)

set_option maxRecDepth 100000 in
set_option maxHeartbeats 4000000 in
theorem ip_L_init (G : gl_T) (t : Nat) (M : mm_T) : im_I mi_L_init 1 20 G M sw_v (ff_L_init t M) 0 [some (.ref t)] [] M := by
  unfold ff_L_init
  refine im_gd (fun hg => ?_)
  refine im_aload_n 0 0 rfl rfl ?_
  refine im_objInit 1 1 ob_L_3 rfl (gd_in hg (by decide)) rfl rfl rfl ?_
  refine im_aload_n 2 4 rfl rfl ?_
  refine im_bipush 3 5 rfl rfl ?_
  refine im_newI 4 7 rfl (tb_m 218 (by decide +kernel) rfl) (fun x1 M1 => ?_)
  refine im_putR 5 9 rfl fd_L_9 (Or.inr ⟨rfl, rfl⟩) (by decide +kernel) (fun M2 => ?_)
  refine im_aload_n 6 12 rfl rfl ?_
  refine im_bipush 7 13 rfl rfl ?_
  refine im_newI 8 15 rfl (tb_m 218 (by decide +kernel) rfl) (fun x2 M3 => ?_)
  refine im_putR 9 17 rfl fd_L_15 (Or.inr ⟨rfl, rfl⟩) (by decide +kernel) (fun M4 => ?_)
  exact im_end rfl (wp_return 10 20 rfl rfl)

theorem sp_L_init (G : gl_T) {t : Nat} {M : mm_T} {y : mm_T} (h : ff_L_init t M = some y) : sp_S mi_L_init 1 20 G [.ref t] M (sw_v y).1 (sw_v y).2 := sp_of mo_L_init mw_L_init (Or.inl (by decide +kernel)) rfl rfl (Or.inl rfl) (ip_L_init G t M y h)

set_option maxRecDepth 100000 in
set_option maxHeartbeats 4000000 in
theorem ip_A_init (G : gl_T) (t : Nat) (M : mm_T) : im_I mi_A_init 1 20 G M sw_v (ff_A_init t M) 0 [some (.ref t)] [] M := by
  unfold ff_A_init
  refine im_gd (fun hg => ?_)
  refine im_aload_n 0 0 rfl rfl ?_
  refine im_objInit 1 1 ob_A_3 rfl (gd_in hg (by decide)) rfl rfl rfl ?_
  refine im_aload_n 2 4 rfl rfl ?_
  refine im_bipush 3 5 rfl rfl ?_
  refine im_newI 4 7 rfl (tb_m 218 (by decide +kernel) rfl) (fun x1 M1 => ?_)
  refine im_putR 5 9 rfl fd_A_9 (Or.inr ⟨rfl, rfl⟩) (by decide +kernel) (fun M2 => ?_)
  refine im_aload_n 6 12 rfl rfl ?_
  refine im_bipush 7 13 rfl rfl ?_
  refine im_newJ 8 15 rfl (tb_m 340 (by decide +kernel) rfl) (fun x2 M3 => ?_)
  refine im_putR 9 17 rfl fd_A_15 (Or.inr ⟨rfl, rfl⟩) (by decide +kernel) (fun M4 => ?_)
  refine im_aload_n 10 20 rfl rfl ?_
  refine im_bipush 11 21 rfl rfl ?_
  refine im_newJ 12 23 rfl (tb_m 340 (by decide +kernel) rfl) (fun x3 M5 => ?_)
  refine im_putR 13 25 rfl fd_A_19 (Or.inr ⟨rfl, rfl⟩) (by decide +kernel) (fun M6 => ?_)
  exact im_end rfl (wp_return 14 28 rfl rfl)

theorem sp_A_init (G : gl_T) {t : Nat} {M : mm_T} {y : mm_T} (h : ff_A_init t M = some y) : sp_S mi_A_init 1 20 G [.ref t] M (sw_v y).1 (sw_v y).2 := sp_of mo_A_init mw_A_init (Or.inl (by decide +kernel)) rfl rfl (Or.inl rfl) (ip_A_init G t M y h)

set_option maxRecDepth 100000 in
set_option maxHeartbeats 4000000 in
theorem ip_C_init (G : gl_T) (t : Nat) (M : mm_T) : im_I mi_C_init 1 20 G M sw_v (ff_C_init t M) 0 [some (.ref t)] [] M := by
  unfold ff_C_init
  refine im_gd (fun hg => ?_)
  refine im_aload_n 0 0 rfl rfl ?_
  refine im_objInit 1 1 ob_C_3 rfl (gd_in hg (by decide)) rfl rfl rfl ?_
  refine im_aload_n 2 4 rfl rfl ?_
  refine im_sipush 3 5 rfl rfl ?_
  refine im_newI 4 8 rfl (tb_m 218 (by decide +kernel) rfl) (fun x1 M1 => ?_)
  refine im_putR 5 10 rfl fd_C_9 (Or.inr ⟨rfl, rfl⟩) (by decide +kernel) (fun M2 => ?_)
  refine im_aload_n 6 13 rfl rfl ?_
  refine im_bipush 7 14 rfl rfl ?_
  refine im_newI 8 16 rfl (tb_m 218 (by decide +kernel) rfl) (fun x2 M3 => ?_)
  refine im_putR 9 18 rfl fd_C_15 (Or.inr ⟨rfl, rfl⟩) (by decide +kernel) (fun M4 => ?_)
  exact im_end rfl (wp_return 10 21 rfl rfl)

theorem sp_C_init (G : gl_T) {t : Nat} {M : mm_T} {y : mm_T} (h : ff_C_init t M = some y) : sp_S mi_C_init 1 20 G [.ref t] M (sw_v y).1 (sw_v y).2 := sp_of mo_C_init mw_C_init (Or.inl (by decide +kernel)) rfl rfl (Or.inl rfl) (ip_C_init G t M y h)

set_option maxRecDepth 100000 in
set_option maxHeartbeats 4000000 in
theorem ip_N_init (G : gl_T) (t : Nat) (M : mm_T) : im_I mi_N_init 1 20 G M sw_v (ff_N_init t M) 0 [some (.ref t)] [] M := by
  unfold ff_N_init
  refine im_gd (fun hg => ?_)
  refine im_aload_n 0 0 rfl rfl ?_
  refine im_objInit 1 1 ob_N_3 rfl (gd_in hg (by decide)) rfl rfl rfl ?_
  refine im_aload_n 2 4 rfl rfl ?_
  refine im_bipush 3 5 rfl rfl ?_
  refine im_newI 4 7 rfl (tb_m 218 (by decide +kernel) rfl) (fun x1 M1 => ?_)
  refine im_putR 5 9 rfl fd_N_9 (Or.inr ⟨rfl, rfl⟩) (by decide +kernel) (fun M2 => ?_)
  refine im_aload_n 6 12 rfl rfl ?_
  refine im_bipush 7 13 rfl rfl ?_
  refine im_newI 8 15 rfl (tb_m 218 (by decide +kernel) rfl) (fun x2 M3 => ?_)
  refine im_putR 9 17 rfl fd_N_15 (Or.inr ⟨rfl, rfl⟩) (by decide +kernel) (fun M4 => ?_)
  exact im_end rfl (wp_return 10 20 rfl rfl)

theorem sp_N_init (G : gl_T) {t : Nat} {M : mm_T} {y : mm_T} (h : ff_N_init t M = some y) : sp_S mi_N_init 1 20 G [.ref t] M (sw_v y).1 (sw_v y).2 := sp_of mo_N_init mw_N_init (Or.inl (by decide +kernel)) rfl rfl (Or.inl rfl) (ip_N_init G t M y h)

set_option maxRecDepth 100000 in
set_option maxHeartbeats 4000000 in
theorem ip_S_clearBuffer (G : gl_T) (t : Nat) (M : mm_T) : im_I mi_S_clearBuffer 1 20 G M sw_v (ff_S_clearBuffer t M) 0 [some (.ref t)] [] M := by
  unfold ff_S_clearBuffer
  refine im_gd (fun hg => ?_)
  refine im_aload_n 0 0 rfl rfl ?_
  refine im_iconst 1 1 rfl rfl ?_
  refine im_putI 2 2 rfl fd_S_25 (Or.inl (by decide +kernel)) (by decide +kernel) (fun M1 => ?_)
  exact im_end rfl (wp_return 3 5 rfl rfl)

theorem sp_S_clearBuffer (G : gl_T) {t : Nat} {M : mm_T} {y : mm_T} (h : ff_S_clearBuffer t M = some y) : sp_S mi_S_clearBuffer 1 20 G [.ref t] M (sw_v y).1 (sw_v y).2 := sp_of mo_S_clearBuffer mw_S_clearBuffer (Or.inl (by decide +kernel)) rfl rfl (Or.inl rfl) (ip_S_clearBuffer G t M y h)

set_option maxRecDepth 100000 in
set_option maxHeartbeats 4000000 in
theorem ip_D_put_a (G : gl_T) (a1 : Nat) (a2 : Int32) (a3 : Int32) (M : mm_T) : im_I mi_D_put_a 1 20 G M sw_v (ff_D_put_a a1 a2 a3 M) 0 [some (.ref a1), some (.int a2), some (.int a3)] [] M := by
  unfold ff_D_put_a
  refine im_iload_n 0 0 rfl rfl ?_
  refine im_if_lt 1 1 14 rfl (by decide) ?_ ?_
  · exact im_end rfl (wp_return 10 14 rfl rfl)
  · refine im_iload_n 2 4 rfl rfl ?_
    refine im_aload_n 3 5 rfl rfl ?_
    refine im_arraylength 4 6 rfl (fun x1 => ?_)
    refine im_ic_ge 5 7 14 rfl (by decide) ?_ ?_
    · exact im_end rfl (wp_return 10 14 rfl rfl)
    · refine im_aload_n 6 10 rfl rfl ?_
      refine im_iload_n 7 11 rfl rfl ?_
      refine im_iload_n 8 12 rfl rfl ?_
      refine im_iastore 9 13 rfl (fun M1 => ?_)
      exact im_end rfl (wp_return 10 14 rfl rfl)

theorem sp_D_put_a (G : gl_T) {a1 : Nat} {a2 : Int32} {a3 : Int32} {M : mm_T} {y : mm_T} (h : ff_D_put_a a1 a2 a3 M = some y) : sp_S mi_D_put_a 1 20 G [.ref a1, .int a2, .int a3] M (sw_v y).1 (sw_v y).2 := sp_of mo_D_put_a mw_D_put_a (Or.inl (by decide +kernel)) rfl rfl (Or.inl rfl) (ip_D_put_a G a1 a2 a3 M y h)

set_option maxRecDepth 100000 in
set_option maxHeartbeats 4000000 in
theorem ip_S_addByte (G : gl_T) (t : Nat) (a1 : Int32) (M : mm_T) : im_I mi_S_addByte 2 42 G M sw_v (ff_S_addByte t a1 M) 0 [some (.ref t), some (.int a1)] [] M := by
  unfold ff_S_addByte
  refine im_gd (fun hg => ?_)
  refine im_aload_n 0 0 rfl rfl ?_
  refine im_getR 1 1 rfl fd_S_9 (by decide +kernel) (fun x1 => ?_)
  refine im_aload_n 2 4 rfl rfl ?_
  refine im_getI 3 5 rfl fd_S_25 (by decide +kernel) (fun x2 => ?_)
  refine im_iload_n 4 8 rfl rfl ?_
  refine im_cWv (S := []) (fun _ hv => cpS (fr' := 1) (lo' := 20) (i := 5) (As := [.ref x1, .int x2, .int a1]) (S := []) rfl lk_S_28 mw_D_put_a mv_D_put_a rfl rfl rfl rfl (sp_D_put_a G hv)) (fun M1 => ?_)
  refine im_aload_n 6 12 rfl rfl ?_
  refine im_dup 7 13 rfl rfl ?_
  refine im_getI 8 14 rfl fd_S_25 (by decide +kernel) (fun x3 => ?_)
  refine im_iconst 9 17 rfl rfl ?_
  refine im_iadd 10 18 rfl ?_
  refine im_putI 11 19 rfl fd_S_25 (Or.inl (by decide +kernel)) (by decide +kernel) (fun M2 => ?_)
  exact im_end rfl (wp_return 12 22 rfl rfl)

theorem sp_S_addByte (G : gl_T) {t : Nat} {a1 : Int32} {M : mm_T} {y : mm_T} (h : ff_S_addByte t a1 M = some y) : sp_S mi_S_addByte 2 42 G [.ref t, .int a1] M (sw_v y).1 (sw_v y).2 := sp_of mo_S_addByte mw_S_addByte (Or.inl (by decide +kernel)) rfl rfl (Or.inl rfl) (ip_S_addByte G t a1 M y h)

set_option maxRecDepth 100000 in
set_option maxHeartbeats 4000000 in
theorem li_S_fillBuffer_6 (G : gl_T) (M0 : mm_T) (p0 : Nat) (p1 : Nat) : ∀ (fu : Nat) (q2 : Int32) (N : mm_T), im_I mi_S_fillBuffer 5 171 G M0 sw_v (lf_S_fillBuffer_6 p0 p1 fu q2 N) 6 [some (.ref p0), some (.ref p1), some (.int q2)] [] N := by
  intro fu
  induction fu with
  | zero => intro _ _; exact im_none
  | succ fu ih =>
    intro q2 N
    show im_I mi_S_fillBuffer 5 171 G M0 sw_v (lb_S_fillBuffer_6 p0 p1 (lf_S_fillBuffer_6 p0 p1 fu) q2 N) 6 [some (.ref p0), some (.ref p1), some (.int q2)] [] N
    unfold lb_S_fillBuffer_6
    refine im_iload_n 4 6 rfl rfl ?_
    refine im_aload_n 5 7 rfl rfl ?_
    refine im_ci (S := [.int q2]) (fun _ hv => cp_len (i := 6) (S := [.int q2]) rfl lm_S_35 rfl rfl hv) (fun x1 => ?_)
    refine im_ic_ge 7 11 36 rfl (by decide) ?_ ?_
    · exact im_end rfl (wp_return 18 36 rfl rfl)
    · refine im_iload_n 8 14 rfl rfl ?_
      refine im_sipush 9 15 rfl rfl ?_
      refine im_ic_ge 10 18 36 rfl (by decide) ?_ ?_
      · exact im_end rfl (wp_return 18 36 rfl rfl)
      · refine im_aload_n 11 21 rfl rfl ?_
        refine im_aload_n 12 22 rfl rfl ?_
        refine im_iload_n 13 23 rfl rfl ?_
        refine im_ci (S := [.ref p0]) (fun _ hv => cp_chr (i := 14) (S := [.ref p0]) rfl lm_S_40 rfl rfl hv) (fun x2 => ?_)
        refine im_cWv (S := []) (fun _ hv => cpV (fr' := 2) (lo' := 42) (i := 15) (As := [.int x2]) (S := []) (a := p0) (c := 6) rfl lk_S_44 mw_S_addByte mv_S_addByte rfl ⟨by decide, rfl⟩ rfl rfl rfl (gd_some hv).1 (sp_S_addByte G hv)) (fun M2 => ?_)
        refine im_iincL 16 30 (fun x3 => [some (.ref p0), some (.ref p1), some (.int x3)]) rfl rfl rfl rfl (fun _ => rfl) (fun x3 => ?_)
        refine im_goto 17 33 6 rfl (by decide) ?_
        exact im_less _ (by simp [lv_le]) (ih x3 M2)

set_option maxRecDepth 100000 in
set_option maxHeartbeats 4000000 in
theorem ip_S_fillBuffer (G : gl_T) (t : Nat) (a1 : Nat) (M : mm_T) : im_I mi_S_fillBuffer 5 171 G M sw_v (ff_S_fillBuffer t a1 M) 0 [some (.ref t), some (.ref a1), none] [] M := by
  unfold ff_S_fillBuffer
  refine im_gd (fun hg => ?_)
  refine im_aload_n 0 0 rfl rfl ?_
  refine im_cWv (S := []) (fun _ hv => cpV (fr' := 1) (lo' := 20) (i := 1) (As := []) (S := []) (a := t) (c := 6) rfl lk_S_32 mw_S_clearBuffer mv_S_clearBuffer rfl ⟨by decide, rfl⟩ rfl rfl rfl (gd_some hv).1 (sp_S_clearBuffer G hv)) (fun M1 => ?_)
  refine im_iconst 2 4 rfl rfl ?_
  refine im_istore_n 3 5 [some (.ref t), some (.ref a1), some (.int (0 : Int32))] rfl rfl rfl ?_
  refine im_less [some (.ref t), some (.ref a1), some (.int (0 : Int32))] (by simp [lv_le]) ?_
  exact li_S_fillBuffer_6 G M t a1 fu_L (0 : Int32) M1

theorem sp_S_fillBuffer (G : gl_T) {t : Nat} {a1 : Nat} {M : mm_T} {y : mm_T} (h : ff_S_fillBuffer t a1 M = some y) : sp_S mi_S_fillBuffer 5 171 G [.ref t, .ref a1] M (sw_v y).1 (sw_v y).2 := sp_of mo_S_fillBuffer mw_S_fillBuffer (Or.inl (by decide +kernel)) rfl rfl (Or.inl rfl) (ip_S_fillBuffer G t a1 M y h)

set_option maxRecDepth 100000 in
set_option maxHeartbeats 4000000 in
theorem ip_P_clear (G : gl_T) (t : Nat) (M : mm_T) : im_I mi_P_clear 1 20 G M sw_v (ff_P_clear t M) 0 [some (.ref t)] [] M := by
  unfold ff_P_clear
  refine im_gd (fun hg => ?_)
  refine im_aload_n 0 0 rfl rfl ?_
  refine im_iconst 1 1 rfl rfl ?_
  refine im_putI 2 2 rfl fd_P_30 (Or.inl (by decide +kernel)) (by decide +kernel) (fun M1 => ?_)
  refine im_aload_n 3 5 rfl rfl ?_
  refine im_iconst 4 6 rfl rfl ?_
  refine im_putI 5 7 rfl fd_P_34 (Or.inl (by decide +kernel)) (by decide +kernel) (fun M2 => ?_)
  exact im_end rfl (wp_return 6 10 rfl rfl)

theorem sp_P_clear (G : gl_T) {t : Nat} {M : mm_T} {y : mm_T} (h : ff_P_clear t M = some y) : sp_S mi_P_clear 1 20 G [.ref t] M (sw_v y).1 (sw_v y).2 := sp_of mo_P_clear mw_P_clear (Or.inl (by decide +kernel)) rfl rfl (Or.inl rfl) (ip_P_clear G t M y h)

set_option maxRecDepth 100000 in
set_option maxHeartbeats 4000000 in
theorem ip_D_at_a (G : gl_T) (a1 : Nat) (a2 : Int32) (M : mm_T) : im_I mi_D_at_a 1 20 G M (sh_i M) (ff_D_at_a a1 a2 M) 0 [some (.ref a1), some (.int a2)] [] M := by
  unfold ff_D_at_a
  refine im_iload_n 0 0 rfl rfl ?_
  refine im_if_lt 1 1 16 rfl (by decide) ?_ ?_
  · refine im_iconst 10 16 rfl rfl ?_
    exact im_end rfl (wp_ireturn 11 17 rfl rfl)
  · refine im_iload_n 2 4 rfl rfl ?_
    refine im_aload_n 3 5 rfl rfl ?_
    refine im_arraylength 4 6 rfl (fun x1 => ?_)
    refine im_ic_ge 5 7 16 rfl (by decide) ?_ ?_
    · refine im_iconst 10 16 rfl rfl ?_
      exact im_end rfl (wp_ireturn 11 17 rfl rfl)
    · refine im_aload_n 6 10 rfl rfl ?_
      refine im_iload_n 7 11 rfl rfl ?_
      refine im_iaload 8 12 rfl (fun x2 => ?_)
      refine im_goto 9 13 17 rfl (by decide) ?_
      exact im_end rfl (wp_ireturn 11 17 rfl rfl)

theorem sp_D_at_a (G : gl_T) {a1 : Nat} {a2 : Int32} {M : mm_T} {y : Int32} (h : ff_D_at_a a1 a2 M = some y) : sp_S mi_D_at_a 1 20 G [.ref a1, .int a2] M ((sh_i M) y).1 ((sh_i M) y).2 := sp_of mo_D_at_a mw_D_at_a (Or.inl (by decide +kernel)) rfl rfl (Or.inl rfl) (ip_D_at_a G a1 a2 M y h)

set_option maxRecDepth 100000 in
set_option maxHeartbeats 4000000 in
theorem ip_S_isBlank (G : gl_T) (a1 : Int32) (M : mm_T) : im_I mi_S_isBlank 1 20 G M (sh_i M) (ff_S_isBlank a1 M) 0 [some (.int a1)] [] M := by
  unfold ff_S_isBlank
  refine im_iload_n 0 0 rfl rfl ?_
  refine im_bipush 1 1 rfl rfl ?_
  refine im_jp (fun j12 => im_I mi_S_isBlank 1 20 G M (sh_i M) (j12) 12 [none] [] M) ?_ (fun j12 hj12 => ?_)
  · show im_I mi_S_isBlank 1 20 G M (sh_i M) (_) 12 [none] [] M
    refine im_iconst 6 12 rfl rfl ?_
    refine im_goto 7 13 17 rfl (by decide) ?_
    exact im_end rfl (wp_zreturn 9 17 (ty := .boolean) rfl (by first | exact nz_0 | exact nz_1) rfl)
  refine im_ic_eq 2 3 12 rfl (by decide) ?_ ?_
  · exact im_less _ (by simp [lv_le]) (hj12)
  · refine im_iload_n 3 6 rfl rfl ?_
    refine im_bipush 4 7 rfl rfl ?_
    refine im_ic_ne 5 9 16 rfl (by decide) ?_ ?_
    · refine im_iconst 8 16 rfl rfl ?_
      exact im_end rfl (wp_zreturn 9 17 (ty := .boolean) rfl (by first | exact nz_0 | exact nz_1) rfl)
    · exact im_less _ (by simp [lv_le]) (hj12)

theorem sp_S_isBlank (G : gl_T) {a1 : Int32} {M : mm_T} {y : Int32} (h : ff_S_isBlank a1 M = some y) : sp_S mi_S_isBlank 1 20 G [.int a1] M ((sh_i M) y).1 ((sh_i M) y).2 := sp_of mo_S_isBlank mw_S_isBlank (Or.inl (by decide +kernel)) rfl rfl (Or.inl rfl) (ip_S_isBlank G a1 M y h)

set_option maxRecDepth 100000 in
set_option maxHeartbeats 4000000 in
theorem ip_S_tokenKind (G : gl_T) (a1 : Int32) (M : mm_T) : im_I mi_S_tokenKind 1 20 G M (sh_i M) (ff_S_tokenKind a1 M) 0 [some (.int a1)] [] M := by
  unfold ff_S_tokenKind
  refine im_iload_n 0 0 rfl rfl ?_
  refine im_bipush 1 1 rfl rfl ?_
  refine im_jp (fun j14 => im_I mi_S_tokenKind 1 20 G M (sh_i M) (j14) 14 [some (.int a1)] [] M) ?_ (fun j14 hj14 => ?_)
  · show im_I mi_S_tokenKind 1 20 G M (sh_i M) (_) 14 [some (.int a1)] [] M
    refine im_iload_n 8 14 rfl rfl ?_
    refine im_bipush 9 15 rfl rfl ?_
    refine im_jp (fun j28 => im_I mi_S_tokenKind 1 20 G M (sh_i M) (j28) 28 [some (.int a1)] [] M) ?_ (fun j28 hj28 => ?_)
    · show im_I mi_S_tokenKind 1 20 G M (sh_i M) (_) 28 [some (.int a1)] [] M
      refine im_iload_n 16 28 rfl rfl ?_
      refine im_bipush 17 29 rfl rfl ?_
      refine im_ic_ne 18 31 38 rfl (by decide) ?_ ?_
      · refine im_iconst 21 38 rfl rfl ?_
        exact im_end rfl (wp_ireturn 22 39 rfl rfl)
      · refine im_iconst 19 34 rfl rfl ?_
        refine im_goto 20 35 39 rfl (by decide) ?_
        exact im_end rfl (wp_ireturn 22 39 rfl rfl)
    refine im_ic_lt 10 17 28 rfl (by decide) ?_ ?_
    · exact im_less _ (by simp [lv_le]) (hj28)
    · refine im_iload_n 11 20 rfl rfl ?_
      refine im_bipush 12 21 rfl rfl ?_
      refine im_ic_gt 13 23 28 rfl (by decide) ?_ ?_
      · exact im_less _ (by simp [lv_le]) (hj28)
      · refine im_iconst 14 26 rfl rfl ?_
        exact im_end rfl (wp_ireturn 15 27 rfl rfl)
  refine im_ic_lt 2 3 14 rfl (by decide) ?_ ?_
  · exact im_less _ (by simp [lv_le]) (hj14)
  · refine im_iload_n 3 6 rfl rfl ?_
    refine im_bipush 4 7 rfl rfl ?_
    refine im_ic_gt 5 9 14 rfl (by decide) ?_ ?_
    · exact im_less _ (by simp [lv_le]) (hj14)
    · refine im_iconst 6 12 rfl rfl ?_
      exact im_end rfl (wp_ireturn 7 13 rfl rfl)

theorem sp_S_tokenKind (G : gl_T) {a1 : Int32} {M : mm_T} {y : Int32} (h : ff_S_tokenKind a1 M = some y) : sp_S mi_S_tokenKind 1 20 G [.int a1] M ((sh_i M) y).1 ((sh_i M) y).2 := sp_of mo_S_tokenKind mw_S_tokenKind (Or.inl (by decide +kernel)) rfl rfl (Or.inl rfl) (ip_S_tokenKind G a1 M y h)

set_option maxRecDepth 100000 in
set_option maxHeartbeats 4000000 in
theorem ip_S_canGrow (G : gl_T) (a1 : Int32) (M : mm_T) : im_I mi_S_canGrow 1 20 G M (sh_i M) (ff_S_canGrow a1 M) 0 [some (.int a1)] [] M := by
  unfold ff_S_canGrow
  refine im_iload_n 0 0 rfl rfl ?_
  refine im_iconst 1 1 rfl rfl ?_
  refine im_jp (fun j10 => im_I mi_S_canGrow 1 20 G M (sh_i M) (j10) 10 [none] [] M) ?_ (fun j10 hj10 => ?_)
  · show im_I mi_S_canGrow 1 20 G M (sh_i M) (_) 10 [none] [] M
    refine im_iconst 6 10 rfl rfl ?_
    refine im_goto 7 11 15 rfl (by decide) ?_
    exact im_end rfl (wp_zreturn 9 15 (ty := .boolean) rfl (by first | exact nz_0 | exact nz_1) rfl)
  refine im_ic_eq 2 2 10 rfl (by decide) ?_ ?_
  · exact im_less _ (by simp [lv_le]) (hj10)
  · refine im_iload_n 3 5 rfl rfl ?_
    refine im_iconst 4 6 rfl rfl ?_
    refine im_ic_ne 5 7 14 rfl (by decide) ?_ ?_
    · refine im_iconst 8 14 rfl rfl ?_
      exact im_end rfl (wp_zreturn 9 15 (ty := .boolean) rfl (by first | exact nz_0 | exact nz_1) rfl)
    · exact im_less _ (by simp [lv_le]) (hj10)

theorem sp_S_canGrow (G : gl_T) {a1 : Int32} {M : mm_T} {y : Int32} (h : ff_S_canGrow a1 M = some y) : sp_S mi_S_canGrow 1 20 G [.int a1] M ((sh_i M) y).1 ((sh_i M) y).2 := sp_of mo_S_canGrow mw_S_canGrow (Or.inl (by decide +kernel)) rfl rfl (Or.inl rfl) (ip_S_canGrow G a1 M y h)

set_option maxRecDepth 100000 in
set_option maxHeartbeats 4000000 in
theorem ip_JM_min (G : gl_T) (a1 : Int32) (a2 : Int32) (M : mm_T) : im_I mi_JM_min 1 20 G M (sh_i M) (ff_JM_min a1 a2 M) 0 [some (.int a1), some (.int a2)] [] M := by
  unfold ff_JM_min
  refine im_iload_n 0 0 rfl rfl ?_
  refine im_iload_n 1 1 rfl rfl ?_
  refine im_ic_gt 2 2 9 rfl (by decide) ?_ ?_
  · refine im_iload_n 5 9 rfl rfl ?_
    exact im_end rfl (wp_ireturn 6 10 rfl rfl)
  · refine im_iload_n 3 5 rfl rfl ?_
    refine im_goto 4 6 10 rfl (by decide) ?_
    exact im_end rfl (wp_ireturn 6 10 rfl rfl)

theorem sp_JM_min (G : gl_T) {a1 : Int32} {a2 : Int32} {M : mm_T} {y : Int32} (h : ff_JM_min a1 a2 M = some y) : sp_S mi_JM_min 1 20 G [.int a1, .int a2] M ((sh_i M) y).1 ((sh_i M) y).2 := sp_of mo_JM_min mw_JM_min (Or.inr ⟨rfl, _, rfl⟩) rfl rfl (Or.inl rfl) (ip_JM_min G a1 a2 M y h)

set_option maxRecDepth 100000 in
set_option maxHeartbeats 4000000 in
theorem li_S_readToken_8 (G : gl_T) (M0 : mm_T) (k0 : mm_T → Option (mm_T)) (p0 : Nat) (hk0 : ∀ (N : mm_T), im_I mi_S_readToken 2 41 G M0 sw_v (k0 N) 49 [some (.ref p0)] [] N) : ∀ (fu : Nat) (N : mm_T), im_I mi_S_readToken 2 41 G M0 sw_v (lf_S_readToken_8 k0 p0 fu N) 8 [some (.ref p0)] [] N := by
  intro fu
  induction fu with
  | zero => intro _; exact im_none
  | succ fu ih =>
    intro N
    show im_I mi_S_readToken 2 41 G M0 sw_v (lb_S_readToken_8 k0 p0 (lf_S_readToken_8 k0 p0 fu) N) 8 [some (.ref p0)] [] N
    unfold lb_S_readToken_8
    refine im_aload_n 4 8 rfl rfl ?_
    refine im_getI 5 9 rfl fd_S_94 (by decide +kernel) (fun x2 => ?_)
    refine im_aload_n 6 12 rfl rfl ?_
    refine im_getI 7 13 rfl fd_S_25 (by decide +kernel) (fun x3 => ?_)
    refine im_ic_ge 8 16 49 rfl (by decide) ?_ ?_
    · exact im_less _ (by simp [lv_le]) (hk0 N)
    · refine im_aload_n 9 19 rfl rfl ?_
      refine im_getR 10 20 rfl fd_S_9 (by decide +kernel) (fun x4 => ?_)
      refine im_aload_n 11 23 rfl rfl ?_
      refine im_getI 12 24 rfl fd_S_94 (by decide +kernel) (fun x5 => ?_)
      refine im_ci (S := []) (fun _ hv => cpS (fr' := 1) (lo' := 20) (i := 13) (As := [.ref x4, .int x5]) (S := []) rfl lk_S_150 mw_D_at_a mv_D_at_a rfl rfl rfl rfl (sp_D_at_a G hv)) (fun x6 => ?_)
      refine im_ci (S := []) (fun _ hv => cpS (fr' := 1) (lo' := 20) (i := 14) (As := [.int x6]) (S := []) rfl lk_S_171 mw_S_isBlank mv_S_isBlank rfl rfl rfl rfl (sp_S_isBlank G hv)) (fun x7 => ?_)
      refine im_if_eq 15 33 49 rfl (by decide) ?_ ?_
      · exact im_less _ (by simp [lv_le]) (hk0 N)
      · refine im_aload_n 16 36 rfl rfl ?_
        refine im_dup 17 37 rfl rfl ?_
        refine im_getI 18 38 rfl fd_S_94 (by decide +kernel) (fun x8 => ?_)
        refine im_iconst 19 41 rfl rfl ?_
        refine im_iadd 20 42 rfl ?_
        refine im_putI 21 43 rfl fd_S_94 (Or.inl (by decide +kernel)) (by decide +kernel) (fun M2 => ?_)
        refine im_goto 22 46 8 rfl (by decide) ?_
        exact im_less _ (by simp [lv_le]) (ih M2)

set_option maxRecDepth 100000 in
set_option maxHeartbeats 4000000 in
theorem li_S_readToken_95 (G : gl_T) (M0 : mm_T) (p0 : Nat) : ∀ (fu : Nat) (N : mm_T), im_I mi_S_readToken 2 41 G M0 sw_v (lf_S_readToken_95 p0 fu N) 95 [some (.ref p0)] [] N := by
  intro fu
  induction fu with
  | zero => intro _; exact im_none
  | succ fu ih =>
    intro N
    show im_I mi_S_readToken 2 41 G M0 sw_v (lb_S_readToken_95 p0 (lf_S_readToken_95 p0 fu) N) 95 [some (.ref p0)] [] N
    unfold lb_S_readToken_95
    refine im_aload_n 45 95 rfl rfl ?_
    refine im_getI 46 96 rfl fd_S_56 (by decide +kernel) (fun x13 => ?_)
    refine im_aload_n 47 99 rfl rfl ?_
    refine im_getI 48 100 rfl fd_S_25 (by decide +kernel) (fun x14 => ?_)
    refine im_ic_ge 49 103 201 rfl (by decide) ?_ ?_
    · exact im_end rfl (wp_return 95 201 rfl rfl)
    · refine im_aload_n 50 106 rfl rfl ?_
      refine im_getR 51 107 rfl fd_S_9 (by decide +kernel) (fun x15 => ?_)
      refine im_aload_n 52 110 rfl rfl ?_
      refine im_getI 53 111 rfl fd_S_56 (by decide +kernel) (fun x16 => ?_)
      refine im_ci (S := []) (fun _ hv => cpS (fr' := 1) (lo' := 20) (i := 54) (As := [.ref x15, .int x16]) (S := []) rfl lk_S_150 mw_D_at_a mv_D_at_a rfl rfl rfl rfl (sp_D_at_a G hv)) (fun x17 => ?_)
      refine im_ci (S := []) (fun _ hv => cpS (fr' := 1) (lo' := 20) (i := 55) (As := [.int x17]) (S := []) rfl lk_S_175 mw_S_tokenKind mv_S_tokenKind rfl rfl rfl rfl (sp_S_tokenKind G hv)) (fun x18 => ?_)
      refine im_aload_n 56 120 rfl rfl ?_
      refine im_getI 57 121 rfl fd_S_62 (by decide +kernel) (fun x19 => ?_)
      refine im_ic_ne 58 124 201 rfl (by decide) ?_ ?_
      · exact im_end rfl (wp_return 95 201 rfl rfl)
      · refine im_aload_n 59 127 rfl rfl ?_
        refine im_getI 60 128 rfl fd_S_56 (by decide +kernel) (fun x20 => ?_)
        refine im_aload_n 61 131 rfl rfl ?_
        refine im_getI 62 132 rfl fd_S_94 (by decide +kernel) (fun x21 => ?_)
        refine im_jp (fun j148 => im_I mi_S_readToken 2 41 G M0 sw_v (j148) 148 [some (.ref p0)] [] N) ?_ (fun j148 hj148 => ?_)
        · show im_I mi_S_readToken 2 41 G M0 sw_v (_) 148 [some (.ref p0)] [] N
          refine im_aload_n 68 148 rfl rfl ?_
          refine im_getI 69 149 rfl fd_S_62 (by decide +kernel) (fun x22 => ?_)
          refine im_iconst 70 152 rfl rfl ?_
          refine im_jp (fun j188 => ∀  (M7 : mm_T), im_I mi_S_readToken 2 41 G M0 sw_v (j188 M7) 188 [some (.ref p0)] [] M7) ?_ (fun j188 hj188 => ?_)
          · intro M7
            show im_I mi_S_readToken 2 41 G M0 sw_v (_) 188 [some (.ref p0)] [] M7
            refine im_aload_n 88 188 rfl rfl ?_
            refine im_dup 89 189 rfl rfl ?_
            refine im_getI 90 190 rfl fd_S_56 (by decide +kernel) (fun x23 => ?_)
            refine im_iconst 91 193 rfl rfl ?_
            refine im_iadd 92 194 rfl ?_
            refine im_putI 93 195 rfl fd_S_56 (Or.inl (by decide +kernel)) (by decide +kernel) (fun M8 => ?_)
            refine im_goto 94 198 95 rfl (by decide) ?_
            exact im_less _ (by simp [lv_le]) (ih M8)
          refine im_ic_ne 71 153 188 rfl (by decide) ?_ ?_
          · exact im_less _ (by simp [lv_le]) (hj188 N)
          · refine im_aload_n 72 156 rfl rfl ?_
            refine im_aload_n 73 157 rfl rfl ?_
            refine im_getI 74 158 rfl fd_S_168 (by decide +kernel) (fun x24 => ?_)
            refine im_bipush 75 161 rfl rfl ?_
            refine im_imul 76 163 rfl ?_
            refine im_aload_n 77 164 rfl rfl ?_
            refine im_getR 78 165 rfl fd_S_9 (by decide +kernel) (fun x25 => ?_)
            refine im_aload_n 79 168 rfl rfl ?_
            refine im_getI 80 169 rfl fd_S_56 (by decide +kernel) (fun x26 => ?_)
            refine im_ci (S := [.int (x24 * (10 : Int32)), .ref p0]) (fun _ hv => cpS (fr' := 1) (lo' := 20) (i := 81) (As := [.ref x25, .int x26]) (S := [.int (x24 * (10 : Int32)), .ref p0]) rfl lk_S_150 mw_D_at_a mv_D_at_a rfl rfl rfl rfl (sp_D_at_a G hv)) (fun x27 => ?_)
            refine im_iadd 82 175 rfl ?_
            refine im_bipush 83 176 rfl rfl ?_
            refine im_isub 84 178 rfl ?_
            refine im_sipush 85 179 rfl rfl ?_
            refine im_ci (S := [.ref p0]) (fun _ hv => cpS (fr' := 1) (lo' := 20) (i := 86) (As := [.int (((x24 * (10 : Int32)) + x27) - (48 : Int32)), .int (1000 : Int32)]) (S := [.ref p0]) rfl lk_S_181 mw_JM_min mv_JM_min rfl rfl rfl rfl (sp_JM_min G hv)) (fun x28 => ?_)
            refine im_putI 87 185 rfl fd_S_168 (Or.inl (by decide +kernel)) (by decide +kernel) (fun M9 => ?_)
            exact im_less _ (by simp [lv_le]) (hj188 M9)
        refine im_ic_eq 63 135 148 rfl (by decide) ?_ ?_
        · exact im_less _ (by simp [lv_le]) (hj148)
        · refine im_aload_n 64 138 rfl rfl ?_
          refine im_getI 65 139 rfl fd_S_62 (by decide +kernel) (fun x29 => ?_)
          refine im_ci (S := []) (fun _ hv => cpS (fr' := 1) (lo' := 20) (i := 66) (As := [.int x29]) (S := []) rfl lk_S_178 mw_S_canGrow mv_S_canGrow rfl rfl rfl rfl (sp_S_canGrow G hv)) (fun x30 => ?_)
          refine im_if_eq 67 145 201 rfl (by decide) ?_ ?_
          · exact im_end rfl (wp_return 95 201 rfl rfl)
          · exact im_less _ (by simp [lv_le]) (hj148)

set_option maxRecDepth 100000 in
set_option maxHeartbeats 4000000 in
theorem ip_S_readToken (G : gl_T) (t : Nat) (M : mm_T) : im_I mi_S_readToken 2 41 G M sw_v (ff_S_readToken t M) 0 [some (.ref t)] [] M := by
  unfold ff_S_readToken
  refine im_gd (fun hg => ?_)
  refine im_aload_n 0 0 rfl rfl ?_
  refine im_aload_n 1 1 rfl rfl ?_
  refine im_getI 2 2 rfl fd_S_56 (by decide +kernel) (fun x1 => ?_)
  refine im_putI 3 5 rfl fd_S_94 (Or.inl (by decide +kernel)) (by decide +kernel) (fun M1 => ?_)
  refine im_less [some (.ref t)] (by simp [lv_le]) ?_
  refine li_S_readToken_8 G M _ t ?_ fu_L M1
  · intro M3
    show im_I mi_S_readToken 2 41 G M sw_v (_) 49 [some (.ref t)] [] M3
    refine im_aload_n 23 49 rfl rfl ?_
    refine im_aload_n 24 50 rfl rfl ?_
    refine im_getI 25 51 rfl fd_S_94 (by decide +kernel) (fun x9 => ?_)
    refine im_aload_n 26 54 rfl rfl ?_
    refine im_getI 27 55 rfl fd_S_25 (by decide +kernel) (fun x10 => ?_)
    refine im_jp (fun j79 => ∀ (x11 : Int32), im_I mi_S_readToken 2 41 G M sw_v (j79 x11) 79 [some (.ref t)] [.int x11, .ref t] M3) ?_ (fun j79 hj79 => ?_)
    · intro x11
      show im_I mi_S_readToken 2 41 G M sw_v (_) 79 [some (.ref t)] [.int x11, .ref t] M3
      refine im_putI 37 79 rfl fd_S_62 (Or.inl (by decide +kernel)) (by decide +kernel) (fun M4 => ?_)
      refine im_aload_n 38 82 rfl rfl ?_
      refine im_iconst 39 83 rfl rfl ?_
      refine im_putI 40 84 rfl fd_S_168 (Or.inl (by decide +kernel)) (by decide +kernel) (fun M5 => ?_)
      refine im_aload_n 41 87 rfl rfl ?_
      refine im_aload_n 42 88 rfl rfl ?_
      refine im_getI 43 89 rfl fd_S_94 (by decide +kernel) (fun x12 => ?_)
      refine im_putI 44 92 rfl fd_S_56 (Or.inl (by decide +kernel)) (by decide +kernel) (fun M6 => ?_)
      refine im_less [some (.ref t)] (by simp [lv_le]) ?_
      exact li_S_readToken_95 G M t fu_L M6
    refine im_ic_ge 28 58 78 rfl (by decide) ?_ ?_
    · refine im_iconst 36 78 rfl rfl ?_
      exact im_less _ (by simp [lv_le]) (hj79 (0 : Int32))
    · refine im_aload_n 29 61 rfl rfl ?_
      refine im_getR 30 62 rfl fd_S_9 (by decide +kernel) (fun x31 => ?_)
      refine im_aload_n 31 65 rfl rfl ?_
      refine im_getI 32 66 rfl fd_S_94 (by decide +kernel) (fun x32 => ?_)
      refine im_ci (S := [.ref t]) (fun _ hv => cpS (fr' := 1) (lo' := 20) (i := 33) (As := [.ref x31, .int x32]) (S := [.ref t]) rfl lk_S_150 mw_D_at_a mv_D_at_a rfl rfl rfl rfl (sp_D_at_a G hv)) (fun x33 => ?_)
      refine im_ci (S := [.ref t]) (fun _ hv => cpS (fr' := 1) (lo' := 20) (i := 34) (As := [.int x33]) (S := [.ref t]) rfl lk_S_175 mw_S_tokenKind mv_S_tokenKind rfl rfl rfl rfl (sp_S_tokenKind G hv)) (fun x34 => ?_)
      refine im_goto 35 75 79 rfl (by decide) ?_
      exact im_less _ (by simp [lv_le]) (hj79 x34)

theorem sp_S_readToken (G : gl_T) {t : Nat} {M : mm_T} {y : mm_T} (h : ff_S_readToken t M = some y) : sp_S mi_S_readToken 2 41 G [.ref t] M (sw_v y).1 (sw_v y).2 := sp_of mo_S_readToken mw_S_readToken (Or.inl (by decide +kernel)) rfl rfl (Or.inl rfl) (ip_S_readToken G t M y h)

set_option maxRecDepth 100000 in
set_option maxHeartbeats 4000000 in
theorem li_S_isWord_28 (G : gl_T) (p0 : Nat) (p1 : Nat) (M : mm_T) : ∀ (fu : Nat) (q2 : Int32), im_I mi_S_isWord 5 171 G M (sh_i M) (lf_S_isWord_28 p0 p1 M fu q2) 28 [some (.ref p0), some (.ref p1), some (.int q2)] [] M := by
  intro fu
  induction fu with
  | zero => intro _; exact im_none
  | succ fu ih =>
    intro q2
    show im_I mi_S_isWord 5 171 G M (sh_i M) (lb_S_isWord_28 p0 p1 M (lf_S_isWord_28 p0 p1 M fu) q2) 28 [some (.ref p0), some (.ref p1), some (.int q2)] [] M
    unfold lb_S_isWord_28
    refine im_iload_n 16 28 rfl rfl ?_
    refine im_aload_n 17 29 rfl rfl ?_
    refine im_ci (S := [.int q2]) (fun _ hv => cp_len (i := 18) (S := [.int q2]) rfl lm_S_35 rfl rfl hv) (fun x5 => ?_)
    refine im_ic_ge 19 33 65 rfl (by decide) ?_ ?_
    · refine im_iconst 35 65 rfl rfl ?_
      exact im_end rfl (wp_zreturn 36 66 (ty := .boolean) rfl (by first | exact nz_0 | exact nz_1) rfl)
    · refine im_aload_n 20 36 rfl rfl ?_
      refine im_getR 21 37 rfl fd_S_9 (by decide +kernel) (fun x6 => ?_)
      refine im_aload_n 22 40 rfl rfl ?_
      refine im_getI 23 41 rfl fd_S_94 (by decide +kernel) (fun x7 => ?_)
      refine im_iload_n 24 44 rfl rfl ?_
      refine im_iadd 25 45 rfl ?_
      refine im_ci (S := []) (fun _ hv => cpS (fr' := 1) (lo' := 20) (i := 26) (As := [.ref x6, .int (x7 + q2)]) (S := []) rfl lk_S_150 mw_D_at_a mv_D_at_a rfl rfl rfl rfl (sp_D_at_a G hv)) (fun x8 => ?_)
      refine im_aload_n 27 49 rfl rfl ?_
      refine im_iload_n 28 50 rfl rfl ?_
      refine im_ci (S := [.int x8]) (fun _ hv => cp_chr (i := 29) (S := [.int x8]) rfl lm_S_40 rfl rfl hv) (fun x9 => ?_)
      refine im_ic_eq 30 54 59 rfl (by decide) ?_ ?_
      · refine im_iincL 33 59 (fun x10 => [some (.ref p0), some (.ref p1), some (.int x10)]) rfl rfl rfl rfl (fun _ => rfl) (fun x10 => ?_)
        refine im_goto 34 62 28 rfl (by decide) ?_
        exact im_less _ (by simp [lv_le]) (ih x10)
      · refine im_iconst 31 57 rfl rfl ?_
        exact im_end rfl (wp_zreturn 32 58 (ty := .boolean) rfl (by first | exact nz_0 | exact nz_1) rfl)

set_option maxRecDepth 100000 in
set_option maxHeartbeats 4000000 in
theorem ip_S_isWord (G : gl_T) (t : Nat) (a1 : Nat) (M : mm_T) : im_I mi_S_isWord 5 171 G M (sh_i M) (ff_S_isWord t a1 M) 0 [some (.ref t), some (.ref a1), none] [] M := by
  unfold ff_S_isWord
  refine im_gd (fun hg => ?_)
  refine im_aload_n 0 0 rfl rfl ?_
  refine im_getI 1 1 rfl fd_S_62 (by decide +kernel) (fun x1 => ?_)
  refine im_iconst 2 4 rfl rfl ?_
  refine im_ic_ne 3 5 24 rfl (by decide) ?_ ?_
  · refine im_iconst 12 24 rfl rfl ?_
    exact im_end rfl (wp_zreturn 13 25 (ty := .boolean) rfl (by first | exact nz_0 | exact nz_1) rfl)
  · refine im_aload_n 4 8 rfl rfl ?_
    refine im_getI 5 9 rfl fd_S_56 (by decide +kernel) (fun x2 => ?_)
    refine im_aload_n 6 12 rfl rfl ?_
    refine im_getI 7 13 rfl fd_S_94 (by decide +kernel) (fun x3 => ?_)
    refine im_isub 8 16 rfl ?_
    refine im_aload_n 9 17 rfl rfl ?_
    refine im_ci (S := [.int (x2 - x3)]) (fun _ hv => cp_len (i := 10) (S := [.int (x2 - x3)]) rfl lm_S_35 rfl rfl hv) (fun x4 => ?_)
    refine im_ic_eq 11 21 26 rfl (by decide) ?_ ?_
    · refine im_iconst 14 26 rfl rfl ?_
      refine im_istore_n 15 27 [some (.ref t), some (.ref a1), some (.int (0 : Int32))] rfl rfl rfl ?_
      refine im_less [some (.ref t), some (.ref a1), some (.int (0 : Int32))] (by simp [lv_le]) ?_
      exact li_S_isWord_28 G t a1 M fu_L (0 : Int32)
    · refine im_iconst 12 24 rfl rfl ?_
      exact im_end rfl (wp_zreturn 13 25 (ty := .boolean) rfl (by first | exact nz_0 | exact nz_1) rfl)

theorem sp_S_isWord (G : gl_T) {t : Nat} {a1 : Nat} {M : mm_T} {y : Int32} (h : ff_S_isWord t a1 M = some y) : sp_S mi_S_isWord 5 171 G [.ref t, .ref a1] M ((sh_i M) y).1 ((sh_i M) y).2 := sp_of mo_S_isWord mw_S_isWord (Or.inl (by decide +kernel)) rfl rfl (Or.inl rfl) (ip_S_isWord G t a1 M y h)

set_option maxRecDepth 100000 in
set_option maxHeartbeats 4000000 in
theorem ip_S_fail (G : gl_T) (t : Nat) (a1 : Int32) (a2 : Int32) (M : mm_T) : im_I mi_S_fail 1 20 G M sw_v (ff_S_fail t a1 a2 M) 0 [some (.ref t), some (.int a1), some (.int a2)] [] M := by
  unfold ff_S_fail
  refine im_gd (fun hg => ?_)
  refine im_aload_n 0 0 rfl rfl ?_
  refine im_getI 1 1 rfl fd_S_48 (by decide +kernel) (fun x1 => ?_)
  refine im_if_ne 2 4 17 rfl (by decide) ?_ ?_
  · exact im_end rfl (wp_return 9 17 rfl rfl)
  · refine im_aload_n 3 7 rfl rfl ?_
    refine im_iload_n 4 8 rfl rfl ?_
    refine im_putI 5 9 rfl fd_S_48 (Or.inl (by decide +kernel)) (by decide +kernel) (fun M1 => ?_)
    refine im_aload_n 6 12 rfl rfl ?_
    refine im_iload_n 7 13 rfl rfl ?_
    refine im_putI 8 14 rfl fd_S_15 (Or.inl (by decide +kernel)) (by decide +kernel) (fun M2 => ?_)
    exact im_end rfl (wp_return 9 17 rfl rfl)

theorem sp_S_fail (G : gl_T) {t : Nat} {a1 : Int32} {a2 : Int32} {M : mm_T} {y : mm_T} (h : ff_S_fail t a1 a2 M = some y) : sp_S mi_S_fail 1 20 G [.ref t, .int a1, .int a2] M (sw_v y).1 (sw_v y).2 := sp_of mo_S_fail mw_S_fail (Or.inl (by decide +kernel)) rfl rfl (Or.inl rfl) (ip_S_fail G t a1 a2 M y h)

set_option maxRecDepth 100000 in
set_option maxHeartbeats 4000000 in
theorem ip_P_addBlock (G : gl_T) (t : Nat) (M : mm_T) : im_I mi_P_addBlock 2 42 G M sw_v (ff_P_addBlock t M) 0 [some (.ref t)] [] M := by
  unfold ff_P_addBlock
  refine im_gd (fun hg => ?_)
  refine im_aload_n 0 0 rfl rfl ?_
  refine im_getR 1 1 rfl fd_P_15 (by decide +kernel) (fun x1 => ?_)
  refine im_aload_n 2 4 rfl rfl ?_
  refine im_getI 3 5 rfl fd_P_30 (by decide +kernel) (fun x2 => ?_)
  refine im_aload_n 4 8 rfl rfl ?_
  refine im_getI 5 9 rfl fd_P_34 (by decide +kernel) (fun x3 => ?_)
  refine im_cWv (S := []) (fun _ hv => cpS (fr' := 1) (lo' := 20) (i := 6) (As := [.ref x1, .int x2, .int x3]) (S := []) rfl lk_P_49 mw_D_put_a mv_D_put_a rfl rfl rfl rfl (sp_D_put_a G hv)) (fun M1 => ?_)
  refine im_aload_n 7 15 rfl rfl ?_
  refine im_dup 8 16 rfl rfl ?_
  refine im_getI 9 17 rfl fd_P_30 (by decide +kernel) (fun x4 => ?_)
  refine im_iconst 10 20 rfl rfl ?_
  refine im_iadd 11 21 rfl ?_
  refine im_putI 12 22 rfl fd_P_30 (Or.inl (by decide +kernel)) (by decide +kernel) (fun M2 => ?_)
  refine im_aload_n 13 25 rfl rfl ?_
  refine im_getR 14 26 rfl fd_P_15 (by decide +kernel) (fun x5 => ?_)
  refine im_aload_n 15 29 rfl rfl ?_
  refine im_getI 16 30 rfl fd_P_30 (by decide +kernel) (fun x6 => ?_)
  refine im_aload_n 17 33 rfl rfl ?_
  refine im_getI 18 34 rfl fd_P_34 (by decide +kernel) (fun x7 => ?_)
  refine im_cWv (S := []) (fun _ hv => cpS (fr' := 1) (lo' := 20) (i := 19) (As := [.ref x5, .int x6, .int x7]) (S := []) rfl lk_P_49 mw_D_put_a mv_D_put_a rfl rfl rfl rfl (sp_D_put_a G hv)) (fun M3 => ?_)
  exact im_end rfl (wp_return 20 40 rfl rfl)

theorem sp_P_addBlock (G : gl_T) {t : Nat} {M : mm_T} {y : mm_T} (h : ff_P_addBlock t M = some y) : sp_S mi_P_addBlock 2 42 G [.ref t] M (sw_v y).1 (sw_v y).2 := sp_of mo_P_addBlock mw_P_addBlock (Or.inl (by decide +kernel)) rfl rfl (Or.inl rfl) (ip_P_addBlock G t M y h)

set_option maxRecDepth 100000 in
set_option maxHeartbeats 4000000 in
theorem ip_S_parseHead (G : gl_T) (t : Nat) (a1 : Nat) (M : mm_T) : im_I mi_S_parseHead 6 193 G M sw_v (ff_S_parseHead t a1 M) 0 [some (.ref t), some (.ref a1)] [] M := by
  unfold ff_S_parseHead
  refine im_gd (fun hg => ?_)
  refine im_aload_n 0 0 rfl rfl ?_
  refine im_ldcS 1 1 rfl (List.mem_of_getElem? (i := 1) rfl) ?_
  refine im_ci (S := []) (fun _ hv => cpV (fr' := 5) (lo' := 171) (i := 2) (As := [.ref (st_B + 1)]) (S := []) (a := t) (c := 6) rfl lk_S_90 mw_S_isWord mv_S_isWord rfl ⟨by decide, rfl⟩ rfl rfl rfl (gd_some hv).1 (sp_S_isWord G hv)) (fun x1 => ?_)
  refine im_if_ne 3 6 21 rfl (by decide) ?_ ?_
  · refine im_aload_n 10 21 rfl rfl ?_
    refine im_getI 11 22 rfl fd_S_75 (by decide +kernel) (fun x2 => ?_)
    refine im_bipush 12 25 rfl rfl ?_
    refine im_ic_lt 13 27 42 rfl (by decide) ?_ ?_
    · refine im_aload_n 20 42 rfl rfl ?_
      refine im_cWv (S := []) (fun _ hv => cpV (fr' := 2) (lo' := 42) (i := 21) (As := []) (S := []) (a := a1) (c := 7) rfl lk_S_101 mw_P_addBlock mv_P_addBlock rfl ⟨by decide, rfl⟩ rfl rfl rfl (gd_some hv).1 (sp_P_addBlock G hv)) (fun M1 => ?_)
      refine im_aload_n 22 46 rfl rfl ?_
      refine im_cWv (S := []) (fun _ hv => cpV (fr' := 2) (lo' := 41) (i := 23) (As := []) (S := []) (a := t) (c := 6) rfl lk_S_59 mw_S_readToken mv_S_readToken rfl ⟨by decide, rfl⟩ rfl rfl rfl (gd_some hv).1 (sp_S_readToken G hv)) (fun M2 => ?_)
      exact im_end rfl (wp_return 24 50 rfl rfl)
    · refine im_aload_n 14 30 rfl rfl ?_
      refine im_iconst 15 31 rfl rfl ?_
      refine im_aload_n 16 32 rfl rfl ?_
      refine im_getI 17 33 rfl fd_S_94 (by decide +kernel) (fun x3 => ?_)
      refine im_cWv (S := []) (fun _ hv => cpV (fr' := 1) (lo' := 20) (i := 18) (As := [.int (3 : Int32), .int x3]) (S := []) (a := t) (c := 6) rfl lk_S_97 mw_S_fail mv_S_fail rfl ⟨by decide, rfl⟩ rfl rfl rfl (gd_some hv).1 (sp_S_fail G hv)) (fun M3 => ?_)
      refine im_goto 19 39 50 rfl (by decide) ?_
      exact im_end rfl (wp_return 24 50 rfl rfl)
  · refine im_aload_n 4 9 rfl rfl ?_
    refine im_iconst 5 10 rfl rfl ?_
    refine im_aload_n 6 11 rfl rfl ?_
    refine im_getI 7 12 rfl fd_S_94 (by decide +kernel) (fun x4 => ?_)
    refine im_cWv (S := []) (fun _ hv => cpV (fr' := 1) (lo' := 20) (i := 8) (As := [.int (1 : Int32), .int x4]) (S := []) (a := t) (c := 6) rfl lk_S_97 mw_S_fail mv_S_fail rfl ⟨by decide, rfl⟩ rfl rfl rfl (gd_some hv).1 (sp_S_fail G hv)) (fun M4 => ?_)
    refine im_goto 9 18 50 rfl (by decide) ?_
    exact im_end rfl (wp_return 24 50 rfl rfl)

theorem sp_S_parseHead (G : gl_T) {t : Nat} {a1 : Nat} {M : mm_T} {y : mm_T} (h : ff_S_parseHead t a1 M = some y) : sp_S mi_S_parseHead 6 193 G [.ref t, .ref a1] M (sw_v y).1 (sw_v y).2 := sp_of mo_S_parseHead mw_S_parseHead (Or.inl (by decide +kernel)) rfl rfl (Or.inl rfl) (ip_S_parseHead G t a1 M y h)

set_option maxRecDepth 100000 in
set_option maxHeartbeats 4000000 in
theorem ip_S_instructionKind (G : gl_T) (t : Nat) (M : mm_T) : im_I mi_S_instructionKind 6 193 G M (sh_i M) (ff_S_instructionKind t M) 0 [some (.ref t)] [] M := by
  unfold ff_S_instructionKind
  refine im_gd (fun hg => ?_)
  refine im_aload_n 0 0 rfl rfl ?_
  refine im_ldcS 1 1 rfl (List.mem_of_getElem? (i := 2) rfl) ?_
  refine im_ci (S := []) (fun _ hv => cpV (fr' := 5) (lo' := 171) (i := 2) (As := [.ref (st_B + 2)]) (S := []) (a := t) (c := 6) rfl lk_S_90 mw_S_isWord mv_S_isWord rfl ⟨by decide, rfl⟩ rfl rfl rfl (gd_some hv).1 (sp_S_isWord G hv)) (fun x1 => ?_)
  refine im_if_eq 3 6 11 rfl (by decide) ?_ ?_
  · refine im_aload_n 6 11 rfl rfl ?_
    refine im_ldcS 7 12 rfl (List.mem_of_getElem? (i := 3) rfl) ?_
    refine im_ci (S := []) (fun _ hv => cpV (fr' := 5) (lo' := 171) (i := 8) (As := [.ref (st_B + 3)]) (S := []) (a := t) (c := 6) rfl lk_S_90 mw_S_isWord mv_S_isWord rfl ⟨by decide, rfl⟩ rfl rfl rfl (gd_some hv).1 (sp_S_isWord G hv)) (fun x2 => ?_)
    refine im_if_eq 9 17 22 rfl (by decide) ?_ ?_
    · refine im_aload_n 12 22 rfl rfl ?_
      refine im_ldcS 13 23 rfl (List.mem_of_getElem? (i := 4) rfl) ?_
      refine im_ci (S := []) (fun _ hv => cpV (fr' := 5) (lo' := 171) (i := 14) (As := [.ref (st_B + 4)]) (S := []) (a := t) (c := 6) rfl lk_S_90 mw_S_isWord mv_S_isWord rfl ⟨by decide, rfl⟩ rfl rfl rfl (gd_some hv).1 (sp_S_isWord G hv)) (fun x3 => ?_)
      refine im_if_eq 15 28 33 rfl (by decide) ?_ ?_
      · refine im_aload_n 18 33 rfl rfl ?_
        refine im_ldcS 19 34 rfl (List.mem_of_getElem? (i := 5) rfl) ?_
        refine im_ci (S := []) (fun _ hv => cpV (fr' := 5) (lo' := 171) (i := 20) (As := [.ref (st_B + 5)]) (S := []) (a := t) (c := 6) rfl lk_S_90 mw_S_isWord mv_S_isWord rfl ⟨by decide, rfl⟩ rfl rfl rfl (gd_some hv).1 (sp_S_isWord G hv)) (fun x4 => ?_)
        refine im_if_eq 21 39 46 rfl (by decide) ?_ ?_
        · refine im_iconst 24 46 rfl rfl ?_
          exact im_end rfl (wp_ireturn 25 47 rfl rfl)
        · refine im_iconst 22 42 rfl rfl ?_
          refine im_goto 23 43 47 rfl (by decide) ?_
          exact im_end rfl (wp_ireturn 25 47 rfl rfl)
      · refine im_iconst 16 31 rfl rfl ?_
        exact im_end rfl (wp_ireturn 17 32 rfl rfl)
    · refine im_iconst 10 20 rfl rfl ?_
      exact im_end rfl (wp_ireturn 11 21 rfl rfl)
  · refine im_iconst 4 9 rfl rfl ?_
    exact im_end rfl (wp_ireturn 5 10 rfl rfl)

theorem sp_S_instructionKind (G : gl_T) {t : Nat} {M : mm_T} {y : Int32} (h : ff_S_instructionKind t M = some y) : sp_S mi_S_instructionKind 6 193 G [.ref t] M ((sh_i M) y).1 ((sh_i M) y).2 := sp_of mo_S_instructionKind mw_S_instructionKind (Or.inl (by decide +kernel)) rfl rfl (Or.inl rfl) (ip_S_instructionKind G t M y h)

set_option maxRecDepth 100000 in
set_option maxHeartbeats 4000000 in
theorem ip_P_isFull (G : gl_T) (t : Nat) (M : mm_T) : im_I mi_P_isFull 1 20 G M (sh_i M) (ff_P_isFull t M) 0 [some (.ref t)] [] M := by
  unfold ff_P_isFull
  refine im_gd (fun hg => ?_)
  refine im_aload_n 0 0 rfl rfl ?_
  refine im_getI 1 1 rfl fd_P_34 (by decide +kernel) (fun x1 => ?_)
  refine im_bipush 2 4 rfl rfl ?_
  refine im_ic_lt 3 6 13 rfl (by decide) ?_ ?_
  · refine im_iconst 6 13 rfl rfl ?_
    exact im_end rfl (wp_zreturn 7 14 (ty := .boolean) rfl (by first | exact nz_0 | exact nz_1) rfl)
  · refine im_iconst 4 9 rfl rfl ?_
    refine im_goto 5 10 14 rfl (by decide) ?_
    exact im_end rfl (wp_zreturn 7 14 (ty := .boolean) rfl (by first | exact nz_0 | exact nz_1) rfl)

theorem sp_P_isFull (G : gl_T) {t : Nat} {M : mm_T} {y : Int32} (h : ff_P_isFull t M = some y) : sp_S mi_P_isFull 1 20 G [.ref t] M ((sh_i M) y).1 ((sh_i M) y).2 := sp_of mo_P_isFull mw_P_isFull (Or.inl (by decide +kernel)) rfl rfl (Or.inl rfl) (ip_P_isFull G t M y h)

set_option maxRecDepth 100000 in
set_option maxHeartbeats 4000000 in
theorem ip_S_takeVariable (G : gl_T) (t : Nat) (M : mm_T) : im_I mi_S_takeVariable 3 61 G M sw_i (ff_S_takeVariable t M) 0 [some (.ref t), none] [] M := by
  unfold ff_S_takeVariable
  refine im_gd (fun hg => ?_)
  refine im_aload_n 0 0 rfl rfl ?_
  refine im_getR 1 1 rfl fd_S_9 (by decide +kernel) (fun x1 => ?_)
  refine im_aload_n 2 4 rfl rfl ?_
  refine im_getI 3 5 rfl fd_S_94 (by decide +kernel) (fun x2 => ?_)
  refine im_ci (S := []) (fun _ hv => cpS (fr' := 1) (lo' := 20) (i := 4) (As := [.ref x1, .int x2]) (S := []) rfl lk_S_150 mw_D_at_a mv_D_at_a rfl rfl rfl rfl (sp_D_at_a G hv)) (fun x3 => ?_)
  refine im_bipush 5 11 rfl rfl ?_
  refine im_isub 6 13 rfl ?_
  refine im_letI (fun x4 => ?_)
  refine im_istore_n 7 14 [some (.ref t), some (.int x4)] rfl rfl rfl ?_
  refine im_aload_n 8 15 rfl rfl ?_
  refine im_getI 9 16 rfl fd_S_62 (by decide +kernel) (fun x5 => ?_)
  refine im_iconst 10 19 rfl rfl ?_
  refine im_jp (fun j42 => im_I mi_S_takeVariable 3 61 G M sw_i (j42) 42 [some (.ref t), none] [] M) ?_ (fun j42 hj42 => ?_)
  · show im_I mi_S_takeVariable 3 61 G M sw_i (_) 42 [some (.ref t), none] [] M
    refine im_aload_n 22 42 rfl rfl ?_
    refine im_iconst 23 43 rfl rfl ?_
    refine im_aload_n 24 44 rfl rfl ?_
    refine im_getI 25 45 rfl fd_S_94 (by decide +kernel) (fun x6 => ?_)
    refine im_cWv (S := []) (fun _ hv => cpV (fr' := 1) (lo' := 20) (i := 26) (As := [.int (1 : Int32), .int x6]) (S := []) (a := t) (c := 6) rfl lk_S_97 mw_S_fail mv_S_fail rfl ⟨by decide, rfl⟩ rfl rfl rfl (gd_some hv).1 (sp_S_fail G hv)) (fun M1 => ?_)
    refine im_iconst 27 51 rfl rfl ?_
    exact im_end rfl (wp_ireturn 28 52 rfl rfl)
  refine im_ic_ne 11 20 42 rfl (by decide) ?_ ?_
  · exact im_less _ (by simp [lv_le]) (hj42)
  · refine im_aload_n 12 23 rfl rfl ?_
    refine im_getI 13 24 rfl fd_S_56 (by decide +kernel) (fun x7 => ?_)
    refine im_aload_n 14 27 rfl rfl ?_
    refine im_getI 15 28 rfl fd_S_94 (by decide +kernel) (fun x8 => ?_)
    refine im_isub 16 31 rfl ?_
    refine im_iconst 17 32 rfl rfl ?_
    refine im_ic_ne 18 33 42 rfl (by decide) ?_ ?_
    · exact im_less _ (by simp [lv_le]) (hj42)
    · refine im_iload_n 19 36 rfl rfl ?_
      refine im_bipush 20 37 rfl rfl ?_
      refine im_ic_lt 21 39 53 rfl (by decide) ?_ ?_
      · refine im_aload_n 29 53 rfl rfl ?_
        refine im_cWv (S := []) (fun _ hv => cpV (fr' := 2) (lo' := 41) (i := 30) (As := []) (S := []) (a := t) (c := 6) rfl lk_S_59 mw_S_readToken mv_S_readToken rfl ⟨by decide, rfl⟩ rfl rfl rfl (gd_some hv).1 (sp_S_readToken G hv)) (fun M2 => ?_)
        refine im_iload_n 31 57 rfl rfl ?_
        exact im_end rfl (wp_ireturn 32 58 rfl rfl)
      · exact im_less _ (by simp [lv_le]) (hj42)

theorem sp_S_takeVariable (G : gl_T) {t : Nat} {M : mm_T} {y : Int32 × mm_T} (h : ff_S_takeVariable t M = some y) : sp_S mi_S_takeVariable 3 61 G [.ref t] M (sw_i y).1 (sw_i y).2 := sp_of mo_S_takeVariable mw_S_takeVariable (Or.inl (by decide +kernel)) rfl rfl (Or.inl rfl) (ip_S_takeVariable G t M y h)

set_option maxRecDepth 100000 in
set_option maxHeartbeats 4000000 in
theorem ip_S_takeOperator (G : gl_T) (t : Nat) (M : mm_T) : im_I mi_S_takeOperator 6 193 G M sw_i (ff_S_takeOperator t M) 0 [some (.ref t), none] [] M := by
  unfold ff_S_takeOperator
  refine im_gd (fun hg => ?_)
  refine im_iconst 0 0 rfl rfl ?_
  refine im_istore_n 1 1 [some (.ref t), some (.int (-1 : Int32))] rfl rfl rfl ?_
  refine im_aload_n 2 2 rfl rfl ?_
  refine im_ldcS 3 3 rfl (List.mem_of_getElem? (i := 6) rfl) ?_
  refine im_ci (S := []) (fun _ hv => cpV (fr' := 5) (lo' := 171) (i := 4) (As := [.ref (st_B + 6)]) (S := []) (a := t) (c := 6) rfl lk_S_90 mw_S_isWord mv_S_isWord rfl ⟨by decide, rfl⟩ rfl rfl rfl (gd_some hv).1 (sp_S_isWord G hv)) (fun x1 => ?_)
  refine im_jp (fun j41 => ∀ (x2 : Int32), im_I mi_S_takeOperator 6 193 G M sw_i (j41 x2) 41 [some (.ref t), some (.int x2)] [] M) ?_ (fun j41 hj41 => ?_)
  · intro x2
    show im_I mi_S_takeOperator 6 193 G M sw_i (_) 41 [some (.ref t), some (.int x2)] [] M
    refine im_iload_n 22 41 rfl rfl ?_
    refine im_iconst 23 42 rfl rfl ?_
    refine im_ic_ne 24 43 57 rfl (by decide) ?_ ?_
    · refine im_aload_n 32 57 rfl rfl ?_
      refine im_cWv (S := []) (fun _ hv => cpV (fr' := 2) (lo' := 41) (i := 33) (As := []) (S := []) (a := t) (c := 6) rfl lk_S_59 mw_S_readToken mv_S_readToken rfl ⟨by decide, rfl⟩ rfl rfl rfl (gd_some hv).1 (sp_S_readToken G hv)) (fun M1 => ?_)
      refine im_iload_n 34 61 rfl rfl ?_
      exact im_end rfl (wp_ireturn 35 62 rfl rfl)
    · refine im_aload_n 25 46 rfl rfl ?_
      refine im_iconst 26 47 rfl rfl ?_
      refine im_aload_n 27 48 rfl rfl ?_
      refine im_getI 28 49 rfl fd_S_94 (by decide +kernel) (fun x3 => ?_)
      refine im_cWv (S := []) (fun _ hv => cpV (fr' := 1) (lo' := 20) (i := 29) (As := [.int (1 : Int32), .int x3]) (S := []) (a := t) (c := 6) rfl lk_S_97 mw_S_fail mv_S_fail rfl ⟨by decide, rfl⟩ rfl rfl rfl (gd_some hv).1 (sp_S_fail G hv)) (fun M2 => ?_)
      refine im_iconst 30 55 rfl rfl ?_
      exact im_end rfl (wp_ireturn 31 56 rfl rfl)
  refine im_if_eq 5 8 16 rfl (by decide) ?_ ?_
  · refine im_aload_n 9 16 rfl rfl ?_
    refine im_ldcS 10 17 rfl (List.mem_of_getElem? (i := 7) rfl) ?_
    refine im_ci (S := []) (fun _ hv => cpV (fr' := 5) (lo' := 171) (i := 11) (As := [.ref (st_B + 7)]) (S := []) (a := t) (c := 6) rfl lk_S_90 mw_S_isWord mv_S_isWord rfl ⟨by decide, rfl⟩ rfl rfl rfl (gd_some hv).1 (sp_S_isWord G hv)) (fun x4 => ?_)
    refine im_if_eq 12 22 30 rfl (by decide) ?_ ?_
    · refine im_aload_n 16 30 rfl rfl ?_
      refine im_ldcS 17 31 rfl (List.mem_of_getElem? (i := 8) rfl) ?_
      refine im_ci (S := []) (fun _ hv => cpV (fr' := 5) (lo' := 171) (i := 18) (As := [.ref (st_B + 8)]) (S := []) (a := t) (c := 6) rfl lk_S_90 mw_S_isWord mv_S_isWord rfl ⟨by decide, rfl⟩ rfl rfl rfl (gd_some hv).1 (sp_S_isWord G hv)) (fun x5 => ?_)
      refine im_if_eq 19 36 41 rfl (by decide) ?_ ?_
      · exact im_less _ (by simp [lv_le]) (hj41 (-1 : Int32))
      · refine im_iconst 20 39 rfl rfl ?_
        refine im_istore_n 21 40 [some (.ref t), some (.int (2 : Int32))] rfl rfl rfl ?_
        exact im_less _ (by simp [lv_le]) (hj41 (2 : Int32))
    · refine im_iconst 13 25 rfl rfl ?_
      refine im_istore_n 14 26 [some (.ref t), some (.int (1 : Int32))] rfl rfl rfl ?_
      refine im_goto 15 27 41 rfl (by decide) ?_
      exact im_less _ (by simp [lv_le]) (hj41 (1 : Int32))
  · refine im_iconst 6 11 rfl rfl ?_
    refine im_istore_n 7 12 [some (.ref t), some (.int (0 : Int32))] rfl rfl rfl ?_
    refine im_goto 8 13 41 rfl (by decide) ?_
    exact im_less _ (by simp [lv_le]) (hj41 (0 : Int32))

theorem sp_S_takeOperator (G : gl_T) {t : Nat} {M : mm_T} {y : Int32 × mm_T} (h : ff_S_takeOperator t M = some y) : sp_S mi_S_takeOperator 6 193 G [.ref t] M (sw_i y).1 (sw_i y).2 := sp_of mo_S_takeOperator mw_S_takeOperator (Or.inl (by decide +kernel)) rfl rfl (Or.inl rfl) (ip_S_takeOperator G t M y h)

set_option maxRecDepth 100000 in
set_option maxHeartbeats 4000000 in
theorem ip_S_takeNumber (G : gl_T) (t : Nat) (a1 : Int32) (M : mm_T) : im_I mi_S_takeNumber 3 61 G M sw_i (ff_S_takeNumber t a1 M) 0 [some (.ref t), some (.int a1), none] [] M := by
  unfold ff_S_takeNumber
  refine im_gd (fun hg => ?_)
  refine im_aload_n 0 0 rfl rfl ?_
  refine im_getI 1 1 rfl fd_S_62 (by decide +kernel) (fun x1 => ?_)
  refine im_iconst 2 4 rfl rfl ?_
  refine im_jp (fun j16 => im_I mi_S_takeNumber 3 61 G M sw_i (j16) 16 [some (.ref t), none, none] [] M) ?_ (fun j16 hj16 => ?_)
  · show im_I mi_S_takeNumber 3 61 G M sw_i (_) 16 [some (.ref t), none, none] [] M
    refine im_aload_n 8 16 rfl rfl ?_
    refine im_aload_n 9 17 rfl rfl ?_
    refine im_getI 10 18 rfl fd_S_62 (by decide +kernel) (fun x2 => ?_)
    refine im_iconst 11 21 rfl rfl ?_
    refine im_jp (fun j30 => ∀ (x3 : Int32), im_I mi_S_takeNumber 3 61 G M sw_i (j30 x3) 30 [some (.ref t), none, none] [.int x3, .ref t] M) ?_ (fun j30 hj30 => ?_)
    · intro x3
      show im_I mi_S_takeNumber 3 61 G M sw_i (_) 30 [some (.ref t), none, none] [.int x3, .ref t] M
      refine im_aload_n 16 30 rfl rfl ?_
      refine im_getI 17 31 rfl fd_S_94 (by decide +kernel) (fun x4 => ?_)
      refine im_cWv (S := []) (fun _ hv => cpV (fr' := 1) (lo' := 20) (i := 18) (As := [.int x3, .int x4]) (S := []) (a := t) (c := 6) rfl lk_S_97 mw_S_fail mv_S_fail rfl ⟨by decide, rfl⟩ rfl rfl rfl (gd_some hv).1 (sp_S_fail G hv)) (fun M1 => ?_)
      refine im_iconst 19 37 rfl rfl ?_
      exact im_end rfl (wp_ireturn 20 38 rfl rfl)
    refine im_ic_ne 12 22 29 rfl (by decide) ?_ ?_
    · refine im_iconst 15 29 rfl rfl ?_
      exact im_less _ (by simp [lv_le]) (hj30 (1 : Int32))
    · refine im_iconst 13 25 rfl rfl ?_
      refine im_goto 14 26 30 rfl (by decide) ?_
      exact im_less _ (by simp [lv_le]) (hj30 (2 : Int32))
  refine im_ic_ne 3 5 16 rfl (by decide) ?_ ?_
  · exact im_less _ (by simp [lv_le]) (hj16)
  · refine im_aload_n 4 8 rfl rfl ?_
    refine im_getI 5 9 rfl fd_S_168 (by decide +kernel) (fun x5 => ?_)
    refine im_iload_n 6 12 rfl rfl ?_
    refine im_ic_le 7 13 39 rfl (by decide) ?_ ?_
    · refine im_aload_n 21 39 rfl rfl ?_
      refine im_getI 22 40 rfl fd_S_168 (by decide +kernel) (fun x6 => ?_)
      refine im_istore_n 23 43 [some (.ref t), some (.int a1), some (.int x6)] rfl rfl rfl ?_
      refine im_aload_n 24 44 rfl rfl ?_
      refine im_cWv (S := []) (fun _ hv => cpV (fr' := 2) (lo' := 41) (i := 25) (As := []) (S := []) (a := t) (c := 6) rfl lk_S_59 mw_S_readToken mv_S_readToken rfl ⟨by decide, rfl⟩ rfl rfl rfl (gd_some hv).1 (sp_S_readToken G hv)) (fun M2 => ?_)
      refine im_iload_n 26 48 rfl rfl ?_
      exact im_end rfl (wp_ireturn 27 49 rfl rfl)
    · exact im_less _ (by simp [lv_le]) (hj16)

theorem sp_S_takeNumber (G : gl_T) {t : Nat} {a1 : Int32} {M : mm_T} {y : Int32 × mm_T} (h : ff_S_takeNumber t a1 M = some y) : sp_S mi_S_takeNumber 3 61 G [.ref t, .int a1] M (sw_i y).1 (sw_i y).2 := sp_of mo_S_takeNumber mw_S_takeNumber (Or.inl (by decide +kernel)) rfl rfl (Or.inl rfl) (ip_S_takeNumber G t a1 M y h)

set_option maxRecDepth 100000 in
set_option maxHeartbeats 4000000 in
theorem ip_O_pack (G : gl_T) (a1 : Int32) (a2 : Int32) (a3 : Int32) (a4 : Int32) (a5 : Int32) (a6 : Int32) (M : mm_T) : im_I mi_O_pack 1 20 G M (sh_i M) (ff_O_pack a1 a2 a3 a4 a5 a6 M) 0 [some (.int a1), some (.int a2), some (.int a3), some (.int a4), some (.int a5), some (.int a6)] [] M := by
  unfold ff_O_pack
  refine im_iload_n 0 0 rfl rfl ?_
  refine im_iload_n 1 1 rfl rfl ?_
  refine im_iconst 2 2 rfl rfl ?_
  refine im_ishl 3 3 rfl ?_
  refine im_ior 4 4 rfl ?_
  refine im_iload_n 5 5 rfl rfl ?_
  refine im_iconst 6 6 rfl rfl ?_
  refine im_ishl 7 7 rfl ?_
  refine im_ior 8 8 rfl ?_
  refine im_iload 9 9 rfl rfl ?_
  refine im_bipush 10 11 rfl rfl ?_
  refine im_ishl 11 13 rfl ?_
  refine im_ior 12 14 rfl ?_
  refine im_iload_n 13 15 rfl rfl ?_
  refine im_bipush 14 16 rfl rfl ?_
  refine im_ishl 15 18 rfl ?_
  refine im_ior 16 19 rfl ?_
  refine im_iload 17 20 rfl rfl ?_
  refine im_bipush 18 22 rfl rfl ?_
  refine im_ishl 19 24 rfl ?_
  refine im_ior 20 25 rfl ?_
  exact im_end rfl (wp_ireturn 21 26 rfl rfl)

theorem sp_O_pack (G : gl_T) {a1 : Int32} {a2 : Int32} {a3 : Int32} {a4 : Int32} {a5 : Int32} {a6 : Int32} {M : mm_T} {y : Int32} (h : ff_O_pack a1 a2 a3 a4 a5 a6 M = some y) : sp_S mi_O_pack 1 20 G [.int a1, .int a2, .int a3, .int a4, .int a5, .int a6] M ((sh_i M) y).1 ((sh_i M) y).2 := sp_of mo_O_pack mw_O_pack (Or.inl (by decide +kernel)) rfl rfl (Or.inl rfl) (ip_O_pack G a1 a2 a3 a4 a5 a6 M y h)

set_option maxRecDepth 100000 in
set_option maxHeartbeats 4000000 in
theorem ip_P_append (G : gl_T) (t : Nat) (a1 : Int32) (M : mm_T) : im_I mi_P_append 2 42 G M sw_v (ff_P_append t a1 M) 0 [some (.ref t), some (.int a1)] [] M := by
  unfold ff_P_append
  refine im_gd (fun hg => ?_)
  refine im_aload_n 0 0 rfl rfl ?_
  refine im_getR 1 1 rfl fd_P_9 (by decide +kernel) (fun x1 => ?_)
  refine im_aload_n 2 4 rfl rfl ?_
  refine im_getI 3 5 rfl fd_P_34 (by decide +kernel) (fun x2 => ?_)
  refine im_iload_n 4 8 rfl rfl ?_
  refine im_cWv (S := []) (fun _ hv => cpS (fr' := 1) (lo' := 20) (i := 5) (As := [.ref x1, .int x2, .int a1]) (S := []) rfl lk_P_49 mw_D_put_a mv_D_put_a rfl rfl rfl rfl (sp_D_put_a G hv)) (fun M1 => ?_)
  refine im_aload_n 6 12 rfl rfl ?_
  refine im_dup 7 13 rfl rfl ?_
  refine im_getI 8 14 rfl fd_P_34 (by decide +kernel) (fun x3 => ?_)
  refine im_iconst 9 17 rfl rfl ?_
  refine im_iadd 10 18 rfl ?_
  refine im_putI 11 19 rfl fd_P_34 (Or.inl (by decide +kernel)) (by decide +kernel) (fun M2 => ?_)
  refine im_aload_n 12 22 rfl rfl ?_
  refine im_getR 13 23 rfl fd_P_15 (by decide +kernel) (fun x4 => ?_)
  refine im_aload_n 14 26 rfl rfl ?_
  refine im_getI 15 27 rfl fd_P_30 (by decide +kernel) (fun x5 => ?_)
  refine im_aload_n 16 30 rfl rfl ?_
  refine im_getI 17 31 rfl fd_P_34 (by decide +kernel) (fun x6 => ?_)
  refine im_cWv (S := []) (fun _ hv => cpS (fr' := 1) (lo' := 20) (i := 18) (As := [.ref x4, .int x5, .int x6]) (S := []) rfl lk_P_49 mw_D_put_a mv_D_put_a rfl rfl rfl rfl (sp_D_put_a G hv)) (fun M3 => ?_)
  exact im_end rfl (wp_return 19 37 rfl rfl)

theorem sp_P_append (G : gl_T) {t : Nat} {a1 : Int32} {M : mm_T} {y : mm_T} (h : ff_P_append t a1 M = some y) : sp_S mi_P_append 2 42 G [.ref t, .int a1] M (sw_v y).1 (sw_v y).2 := sp_of mo_P_append mw_P_append (Or.inl (by decide +kernel)) rfl rfl (Or.inl rfl) (ip_P_append G t a1 M y h)

set_option maxRecDepth 100000 in
set_option maxHeartbeats 4000000 in
theorem ip_S_parseInstruction (G : gl_T) (t : Nat) (a1 : Nat) (M : mm_T) : im_I mi_S_parseInstruction 7 214 G M sw_v (ff_S_parseInstruction t a1 M) 0 [some (.ref t), some (.ref a1), none, none, none, none, none, none] [] M := by
  unfold ff_S_parseInstruction
  refine im_gd (fun hg => ?_)
  refine im_aload_n 0 0 rfl rfl ?_
  refine im_ci (S := []) (fun _ hv => cpV (fr' := 1) (lo' := 20) (i := 1) (As := []) (S := []) (a := a1) (c := 7) rfl lk_S_104 mw_P_isFull mv_P_isFull rfl ⟨by decide, rfl⟩ rfl rfl rfl (gd_some hv).1 (sp_P_isFull G hv)) (fun x1 => ?_)
  refine im_if_eq 2 4 17 rfl (by decide) ?_ ?_
  · refine im_aload_n 9 17 rfl rfl ?_
    refine im_ci (S := []) (fun _ hv => cpV (fr' := 6) (lo' := 193) (i := 10) (As := []) (S := []) (a := t) (c := 6) rfl lk_S_69 mw_S_instructionKind mv_S_instructionKind rfl ⟨by decide, rfl⟩ rfl rfl rfl (gd_some hv).1 (sp_S_instructionKind G hv)) (fun x2 => ?_)
    refine im_istore_n 11 21 [some (.ref t), some (.ref a1), some (.int x2), none, none, none, none, none] rfl rfl rfl ?_
    refine im_aload_n 12 22 rfl rfl ?_
    refine im_cWv (S := []) (fun _ hv => cpV (fr' := 2) (lo' := 41) (i := 13) (As := []) (S := []) (a := t) (c := 6) rfl lk_S_59 mw_S_readToken mv_S_readToken rfl ⟨by decide, rfl⟩ rfl rfl rfl (gd_some hv).1 (sp_S_readToken G hv)) (fun M1 => ?_)
    refine im_iload_n 14 26 rfl rfl ?_
    refine im_iconst 15 27 rfl rfl ?_
    refine im_jp (fun j39 => ∀ (x3 : Int32) (M2 : mm_T), im_I mi_S_parseInstruction 7 214 G M sw_v (j39 x3 M2) 39 [some (.ref t), some (.ref a1), some (.int x2), none, none, none, none, none] [.int x3] M2) ?_ (fun j39 hj39 => ?_)
    · intro x3 M2
      show im_I mi_S_parseInstruction 7 214 G M sw_v (_) 39 [some (.ref t), some (.ref a1), some (.int x2), none, none, none, none, none] [.int x3] M2
      refine im_istore_n 21 39 [some (.ref t), some (.ref a1), some (.int x2), some (.int x3), none, none, none, none] rfl rfl rfl ?_
      refine im_iload_n 22 40 rfl rfl ?_
      refine im_jp (fun j52 => ∀ (x4 : Int32) (M3 : mm_T), im_I mi_S_parseInstruction 7 214 G M sw_v (j52 x4 M3) 52 [some (.ref t), some (.ref a1), some (.int x2), some (.int x3), none, none, none, none] [.int x4] M3) ?_ (fun j52 hj52 => ?_)
      · intro x4 M3
        show im_I mi_S_parseInstruction 7 214 G M sw_v (_) 52 [some (.ref t), some (.ref a1), some (.int x2), some (.int x3), none, none, none, none] [.int x4] M3
        refine im_istore 28 52 [some (.ref t), some (.ref a1), some (.int x2), some (.int x3), some (.int x4), none, none, none] rfl rfl rfl ?_
        refine im_iload_n 29 54 rfl rfl ?_
        refine im_iconst 30 55 rfl rfl ?_
        refine im_jp (fun j67 => ∀ (x5 : Int32) (M4 : mm_T), im_I mi_S_parseInstruction 7 214 G M sw_v (j67 x5 M4) 67 [some (.ref t), some (.ref a1), some (.int x2), some (.int x3), some (.int x4), none, none, none] [.int x5] M4) ?_ (fun j67 hj67 => ?_)
        · intro x5 M4
          show im_I mi_S_parseInstruction 7 214 G M sw_v (_) 67 [some (.ref t), some (.ref a1), some (.int x2), some (.int x3), some (.int x4), none, none, none] [.int x5] M4
          refine im_istore 36 67 [some (.ref t), some (.ref a1), some (.int x2), some (.int x3), some (.int x4), some (.int x5), none, none] rfl rfl rfl ?_
          refine im_iload_n 37 69 rfl rfl ?_
          refine im_iconst 38 70 rfl rfl ?_
          refine im_jp (fun j82 => ∀ (x6 : Int32) (M5 : mm_T), im_I mi_S_parseInstruction 7 214 G M sw_v (j82 x6 M5) 82 [some (.ref t), some (.ref a1), some (.int x2), some (.int x3), some (.int x4), some (.int x5), none, none] [.int x6] M5) ?_ (fun j82 hj82 => ?_)
          · intro x6 M5
            show im_I mi_S_parseInstruction 7 214 G M sw_v (_) 82 [some (.ref t), some (.ref a1), some (.int x2), some (.int x3), some (.int x4), some (.int x5), none, none] [.int x6] M5
            refine im_istore 44 82 [some (.ref t), some (.ref a1), some (.int x2), some (.int x3), some (.int x4), some (.int x5), some (.int x6), none] rfl rfl rfl ?_
            refine im_iload_n 45 84 rfl rfl ?_
            refine im_jp (fun j99 => ∀ (x7 : Int32) (M6 : mm_T), im_I mi_S_parseInstruction 7 214 G M sw_v (j99 x7 M6) 99 [some (.ref t), some (.ref a1), some (.int x2), some (.int x3), some (.int x4), some (.int x5), some (.int x6), none] [.int x7] M6) ?_ (fun j99 hj99 => ?_)
            · intro x7 M6
              show im_I mi_S_parseInstruction 7 214 G M sw_v (_) 99 [some (.ref t), some (.ref a1), some (.int x2), some (.int x3), some (.int x4), some (.int x5), some (.int x6), none] [.int x7] M6
              refine im_istore 52 99 [some (.ref t), some (.ref a1), some (.int x2), some (.int x3), some (.int x4), some (.int x5), some (.int x6), some (.int x7)] rfl rfl rfl ?_
              refine im_aload_n 53 101 rfl rfl ?_
              refine im_getI 54 102 rfl fd_S_48 (by decide +kernel) (fun x8 => ?_)
              refine im_if_ne 55 105 125 rfl (by decide) ?_ ?_
              · exact im_end rfl (wp_return 65 125 rfl rfl)
              · refine im_aload_n 56 108 rfl rfl ?_
                refine im_iload_n 57 109 rfl rfl ?_
                refine im_iload_n 58 110 rfl rfl ?_
                refine im_iload 59 111 rfl rfl ?_
                refine im_iload 60 113 rfl rfl ?_
                refine im_iload 61 115 rfl rfl ?_
                refine im_iload 62 117 rfl rfl ?_
                refine im_ci (S := [.ref a1]) (fun _ hv => cpS (fr' := 1) (lo' := 20) (i := 63) (As := [.int x2, .int x3, .int x4, .int x5, .int x6, .int x7]) (S := [.ref a1]) rfl lk_S_118 mw_O_pack mv_O_pack rfl rfl rfl rfl (sp_O_pack G hv)) (fun x9 => ?_)
                refine im_cWv (S := []) (fun _ hv => cpV (fr' := 2) (lo' := 42) (i := 64) (As := [.int x9]) (S := []) (a := a1) (c := 7) rfl lk_S_124 mw_P_append mv_P_append rfl ⟨by decide, rfl⟩ rfl rfl rfl (gd_some hv).1 (sp_P_append G hv)) (fun M7 => ?_)
                exact im_end rfl (wp_return 65 125 rfl rfl)
            refine im_if_ne 46 85 98 rfl (by decide) ?_ ?_
            · refine im_iconst 51 98 rfl rfl ?_
              exact im_less _ (by simp [lv_le]) (hj99 (0 : Int32) M5)
            · refine im_aload_n 47 88 rfl rfl ?_
              refine im_sipush 48 89 rfl rfl ?_
              refine im_cWi (S := []) (fun _ _ hv => cpV (fr' := 3) (lo' := 61) (i := 49) (As := [.int (999 : Int32)]) (S := []) (a := t) (c := 6) rfl lk_S_114 mw_S_takeNumber mv_S_takeNumber rfl ⟨by decide, rfl⟩ rfl rfl rfl (gd_some hv).1 (sp_S_takeNumber G hv)) (fun x10 M8 => ?_)
              refine im_goto 50 95 99 rfl (by decide) ?_
              exact im_less _ (by simp [lv_le]) (hj99 x10 M8)
          refine im_ic_ne 39 71 81 rfl (by decide) ?_ ?_
          · refine im_iconst 43 81 rfl rfl ?_
            exact im_less _ (by simp [lv_le]) (hj82 (0 : Int32) M4)
          · refine im_aload_n 40 74 rfl rfl ?_
            refine im_cWi (S := []) (fun _ _ hv => cpV (fr' := 3) (lo' := 61) (i := 41) (As := []) (S := []) (a := t) (c := 6) rfl lk_S_108 mw_S_takeVariable mv_S_takeVariable rfl ⟨by decide, rfl⟩ rfl rfl rfl (gd_some hv).1 (sp_S_takeVariable G hv)) (fun x11 M9 => ?_)
            refine im_goto 42 78 82 rfl (by decide) ?_
            exact im_less _ (by simp [lv_le]) (hj82 x11 M9)
        refine im_ic_ne 31 56 66 rfl (by decide) ?_ ?_
        · refine im_iconst 35 66 rfl rfl ?_
          exact im_less _ (by simp [lv_le]) (hj67 (0 : Int32) M3)
        · refine im_aload_n 32 59 rfl rfl ?_
          refine im_cWi (S := []) (fun _ _ hv => cpV (fr' := 6) (lo' := 193) (i := 33) (As := []) (S := []) (a := t) (c := 6) rfl lk_S_111 mw_S_takeOperator mv_S_takeOperator rfl ⟨by decide, rfl⟩ rfl rfl rfl (gd_some hv).1 (sp_S_takeOperator G hv)) (fun x12 M10 => ?_)
          refine im_goto 34 63 67 rfl (by decide) ?_
          exact im_less _ (by simp [lv_le]) (hj67 x12 M10)
      refine im_if_ne 23 41 48 rfl (by decide) ?_ ?_
      · refine im_aload_n 26 48 rfl rfl ?_
        refine im_cWi (S := []) (fun _ _ hv => cpV (fr' := 3) (lo' := 61) (i := 27) (As := []) (S := []) (a := t) (c := 6) rfl lk_S_108 mw_S_takeVariable mv_S_takeVariable rfl ⟨by decide, rfl⟩ rfl rfl rfl (gd_some hv).1 (sp_S_takeVariable G hv)) (fun x13 M11 => ?_)
        exact im_less _ (by simp [lv_le]) (hj52 x13 M11)
      · refine im_iconst 24 44 rfl rfl ?_
        refine im_goto 25 45 52 rfl (by decide) ?_
        exact im_less _ (by simp [lv_le]) (hj52 (0 : Int32) M2)
    refine im_ic_ne 16 28 35 rfl (by decide) ?_ ?_
    · refine im_aload_n 19 35 rfl rfl ?_
      refine im_cWi (S := []) (fun _ _ hv => cpV (fr' := 3) (lo' := 61) (i := 20) (As := []) (S := []) (a := t) (c := 6) rfl lk_S_108 mw_S_takeVariable mv_S_takeVariable rfl ⟨by decide, rfl⟩ rfl rfl rfl (gd_some hv).1 (sp_S_takeVariable G hv)) (fun x14 M12 => ?_)
      exact im_less _ (by simp [lv_le]) (hj39 x14 M12)
    · refine im_iconst 17 31 rfl rfl ?_
      refine im_goto 18 32 39 rfl (by decide) ?_
      exact im_less _ (by simp [lv_le]) (hj39 (0 : Int32) M1)
  · refine im_aload_n 3 7 rfl rfl ?_
    refine im_iconst 4 8 rfl rfl ?_
    refine im_aload_n 5 9 rfl rfl ?_
    refine im_getI 6 10 rfl fd_S_94 (by decide +kernel) (fun x15 => ?_)
    refine im_cWv (S := []) (fun _ hv => cpV (fr' := 1) (lo' := 20) (i := 7) (As := [.int (3 : Int32), .int x15]) (S := []) (a := t) (c := 6) rfl lk_S_97 mw_S_fail mv_S_fail rfl ⟨by decide, rfl⟩ rfl rfl rfl (gd_some hv).1 (sp_S_fail G hv)) (fun M13 => ?_)
    exact im_end rfl (wp_return 8 16 rfl rfl)

theorem sp_S_parseInstruction (G : gl_T) {t : Nat} {a1 : Nat} {M : mm_T} {y : mm_T} (h : ff_S_parseInstruction t a1 M = some y) : sp_S mi_S_parseInstruction 7 214 G [.ref t, .ref a1] M (sw_v y).1 (sw_v y).2 := sp_of mo_S_parseInstruction mw_S_parseInstruction (Or.inl (by decide +kernel)) rfl rfl (Or.inl rfl) (ip_S_parseInstruction G t a1 M y h)

set_option maxRecDepth 100000 in
set_option maxHeartbeats 4000000 in
theorem ip_P_exitByStop (G : gl_T) (t : Nat) (a1 : Int32) (M : mm_T) : im_I mi_P_exitByStop 2 42 G M sw_v (ff_P_exitByStop t a1 M) 0 [some (.ref t), some (.int a1)] [] M := by
  unfold ff_P_exitByStop
  refine im_gd (fun hg => ?_)
  refine im_aload_n 0 0 rfl rfl ?_
  refine im_getR 1 1 rfl fd_P_18 (by decide +kernel) (fun x1 => ?_)
  refine im_iload_n 2 4 rfl rfl ?_
  refine im_iconst 3 5 rfl rfl ?_
  refine im_cWv (S := []) (fun _ hv => cpS (fr' := 1) (lo' := 20) (i := 4) (As := [.ref x1, .int a1, .int (0 : Int32)]) (S := []) rfl lk_P_49 mw_D_put_a mv_D_put_a rfl rfl rfl rfl (sp_D_put_a G hv)) (fun M1 => ?_)
  exact im_end rfl (wp_return 5 9 rfl rfl)

theorem sp_P_exitByStop (G : gl_T) {t : Nat} {a1 : Int32} {M : mm_T} {y : mm_T} (h : ff_P_exitByStop t a1 M = some y) : sp_S mi_P_exitByStop 2 42 G [.ref t, .int a1] M (sw_v y).1 (sw_v y).2 := sp_of mo_P_exitByStop mw_P_exitByStop (Or.inl (by decide +kernel)) rfl rfl (Or.inl rfl) (ip_P_exitByStop G t a1 M y h)

set_option maxRecDepth 100000 in
set_option maxHeartbeats 4000000 in
theorem ip_P_exitByGoto (G : gl_T) (t : Nat) (a1 : Int32) (a2 : Int32) (M : mm_T) : im_I mi_P_exitByGoto 2 42 G M sw_v (ff_P_exitByGoto t a1 a2 M) 0 [some (.ref t), some (.int a1), some (.int a2)] [] M := by
  unfold ff_P_exitByGoto
  refine im_gd (fun hg => ?_)
  refine im_aload_n 0 0 rfl rfl ?_
  refine im_getR 1 1 rfl fd_P_18 (by decide +kernel) (fun x1 => ?_)
  refine im_iload_n 2 4 rfl rfl ?_
  refine im_iconst 3 5 rfl rfl ?_
  refine im_cWv (S := []) (fun _ hv => cpS (fr' := 1) (lo' := 20) (i := 4) (As := [.ref x1, .int a1, .int (1 : Int32)]) (S := []) rfl lk_P_49 mw_D_put_a mv_D_put_a rfl rfl rfl rfl (sp_D_put_a G hv)) (fun M1 => ?_)
  refine im_aload_n 5 9 rfl rfl ?_
  refine im_getR 6 10 rfl fd_P_24 (by decide +kernel) (fun x2 => ?_)
  refine im_iload_n 7 13 rfl rfl ?_
  refine im_iload_n 8 14 rfl rfl ?_
  refine im_cWv (S := []) (fun _ hv => cpS (fr' := 1) (lo' := 20) (i := 9) (As := [.ref x2, .int a1, .int a2]) (S := []) rfl lk_P_49 mw_D_put_a mv_D_put_a rfl rfl rfl rfl (sp_D_put_a G hv)) (fun M2 => ?_)
  exact im_end rfl (wp_return 10 18 rfl rfl)

theorem sp_P_exitByGoto (G : gl_T) {t : Nat} {a1 : Int32} {a2 : Int32} {M : mm_T} {y : mm_T} (h : ff_P_exitByGoto t a1 a2 M = some y) : sp_S mi_P_exitByGoto 2 42 G [.ref t, .int a1, .int a2] M (sw_v y).1 (sw_v y).2 := sp_of mo_P_exitByGoto mw_P_exitByGoto (Or.inl (by decide +kernel)) rfl rfl (Or.inl rfl) (ip_P_exitByGoto G t a1 a2 M y h)

set_option maxRecDepth 100000 in
set_option maxHeartbeats 4000000 in
theorem ip_P_exitByBranch (G : gl_T) (t : Nat) (a1 : Int32) (a2 : Int32) (a3 : Int32) (a4 : Int32) (M : mm_T) : im_I mi_P_exitByBranch 2 42 G M sw_v (ff_P_exitByBranch t a1 a2 a3 a4 M) 0 [some (.ref t), some (.int a1), some (.int a2), some (.int a3), some (.int a4)] [] M := by
  unfold ff_P_exitByBranch
  refine im_gd (fun hg => ?_)
  refine im_aload_n 0 0 rfl rfl ?_
  refine im_getR 1 1 rfl fd_P_18 (by decide +kernel) (fun x1 => ?_)
  refine im_iload_n 2 4 rfl rfl ?_
  refine im_iconst 3 5 rfl rfl ?_
  refine im_cWv (S := []) (fun _ hv => cpS (fr' := 1) (lo' := 20) (i := 4) (As := [.ref x1, .int a1, .int (2 : Int32)]) (S := []) rfl lk_P_49 mw_D_put_a mv_D_put_a rfl rfl rfl rfl (sp_D_put_a G hv)) (fun M1 => ?_)
  refine im_aload_n 5 9 rfl rfl ?_
  refine im_getR 6 10 rfl fd_P_21 (by decide +kernel) (fun x2 => ?_)
  refine im_iload_n 7 13 rfl rfl ?_
  refine im_iload_n 8 14 rfl rfl ?_
  refine im_cWv (S := []) (fun _ hv => cpS (fr' := 1) (lo' := 20) (i := 9) (As := [.ref x2, .int a1, .int a2]) (S := []) rfl lk_P_49 mw_D_put_a mv_D_put_a rfl rfl rfl rfl (sp_D_put_a G hv)) (fun M2 => ?_)
  refine im_aload_n 10 18 rfl rfl ?_
  refine im_getR 11 19 rfl fd_P_24 (by decide +kernel) (fun x3 => ?_)
  refine im_iload_n 12 22 rfl rfl ?_
  refine im_iload_n 13 23 rfl rfl ?_
  refine im_cWv (S := []) (fun _ hv => cpS (fr' := 1) (lo' := 20) (i := 14) (As := [.ref x3, .int a1, .int a3]) (S := []) rfl lk_P_49 mw_D_put_a mv_D_put_a rfl rfl rfl rfl (sp_D_put_a G hv)) (fun M3 => ?_)
  refine im_aload_n 15 27 rfl rfl ?_
  refine im_getR 16 28 rfl fd_P_27 (by decide +kernel) (fun x4 => ?_)
  refine im_iload_n 17 31 rfl rfl ?_
  refine im_iload 18 32 rfl rfl ?_
  refine im_cWv (S := []) (fun _ hv => cpS (fr' := 1) (lo' := 20) (i := 19) (As := [.ref x4, .int a1, .int a4]) (S := []) rfl lk_P_49 mw_D_put_a mv_D_put_a rfl rfl rfl rfl (sp_D_put_a G hv)) (fun M4 => ?_)
  exact im_end rfl (wp_return 20 37 rfl rfl)

theorem sp_P_exitByBranch (G : gl_T) {t : Nat} {a1 : Int32} {a2 : Int32} {a3 : Int32} {a4 : Int32} {M : mm_T} {y : mm_T} (h : ff_P_exitByBranch t a1 a2 a3 a4 M = some y) : sp_S mi_P_exitByBranch 2 42 G [.ref t, .int a1, .int a2, .int a3, .int a4] M (sw_v y).1 (sw_v y).2 := sp_of mo_P_exitByBranch mw_P_exitByBranch (Or.inl (by decide +kernel)) rfl rfl (Or.inl rfl) (ip_P_exitByBranch G t a1 a2 a3 a4 M y h)

set_option maxRecDepth 100000 in
set_option maxHeartbeats 4000000 in
theorem ip_S_parseExit (G : gl_T) (t : Nat) (a1 : Nat) (a2 : Int32) (M : mm_T) : im_I mi_S_parseExit 6 193 G M sw_v (ff_S_parseExit t a1 a2 M) 0 [some (.ref t), some (.ref a1), some (.int a2), none, none, none] [] M := by
  unfold ff_S_parseExit
  refine im_gd (fun hg => ?_)
  refine im_aload_n 0 0 rfl rfl ?_
  refine im_ldcS 1 1 rfl (List.mem_of_getElem? (i := 9) rfl) ?_
  refine im_ci (S := []) (fun _ hv => cpV (fr' := 5) (lo' := 171) (i := 2) (As := [.ref (st_B + 9)]) (S := []) (a := t) (c := 6) rfl lk_S_90 mw_S_isWord mv_S_isWord rfl ⟨by decide, rfl⟩ rfl rfl rfl (gd_some hv).1 (sp_S_isWord G hv)) (fun x1 => ?_)
  refine im_if_eq 3 6 21 rfl (by decide) ?_ ?_
  · refine im_aload_n 10 21 rfl rfl ?_
    refine im_ldcS 11 22 rfl (List.mem_of_getElem? (i := 10) rfl) ?_
    refine im_ci (S := []) (fun _ hv => cpV (fr' := 5) (lo' := 171) (i := 12) (As := [.ref (st_B + 10)]) (S := []) (a := t) (c := 6) rfl lk_S_90 mw_S_isWord mv_S_isWord rfl ⟨by decide, rfl⟩ rfl rfl rfl (gd_some hv).1 (sp_S_isWord G hv)) (fun x2 => ?_)
    refine im_if_eq 13 27 60 rfl (by decide) ?_ ?_
    · refine im_aload_n 29 60 rfl rfl ?_
      refine im_ldcS 30 61 rfl (List.mem_of_getElem? (i := 11) rfl) ?_
      refine im_ci (S := []) (fun _ hv => cpV (fr' := 5) (lo' := 171) (i := 31) (As := [.ref (st_B + 11)]) (S := []) (a := t) (c := 6) rfl lk_S_90 mw_S_isWord mv_S_isWord rfl ⟨by decide, rfl⟩ rfl rfl rfl (gd_some hv).1 (sp_S_isWord G hv)) (fun x3 => ?_)
      refine im_if_eq 32 66 131 rfl (by decide) ?_ ?_
      · refine im_aload_n 65 131 rfl rfl ?_
        refine im_iconst 66 132 rfl rfl ?_
        refine im_aload_n 67 133 rfl rfl ?_
        refine im_getI 68 134 rfl fd_S_94 (by decide +kernel) (fun x4 => ?_)
        refine im_cWv (S := []) (fun _ hv => cpV (fr' := 1) (lo' := 20) (i := 69) (As := [.int (1 : Int32), .int x4]) (S := []) (a := t) (c := 6) rfl lk_S_97 mw_S_fail mv_S_fail rfl ⟨by decide, rfl⟩ rfl rfl rfl (gd_some hv).1 (sp_S_fail G hv)) (fun M1 => ?_)
        exact im_end rfl (wp_return 70 140 rfl rfl)
      · refine im_aload_n 33 69 rfl rfl ?_
        refine im_cWv (S := []) (fun _ hv => cpV (fr' := 2) (lo' := 41) (i := 34) (As := []) (S := []) (a := t) (c := 6) rfl lk_S_59 mw_S_readToken mv_S_readToken rfl ⟨by decide, rfl⟩ rfl rfl rfl (gd_some hv).1 (sp_S_readToken G hv)) (fun M2 => ?_)
        refine im_aload_n 35 73 rfl rfl ?_
        refine im_cWi (S := []) (fun _ _ hv => cpV (fr' := 3) (lo' := 61) (i := 36) (As := []) (S := []) (a := t) (c := 6) rfl lk_S_108 mw_S_takeVariable mv_S_takeVariable rfl ⟨by decide, rfl⟩ rfl rfl rfl (gd_some hv).1 (sp_S_takeVariable G hv)) (fun x5 M3 => ?_)
        refine im_istore_n 37 77 [some (.ref t), some (.ref a1), some (.int a2), some (.int x5), none, none] rfl rfl rfl ?_
        refine im_aload_n 38 78 rfl rfl ?_
        refine im_getR 39 79 rfl fd_S_19 (by decide +kernel) (fun x6 => ?_)
        refine im_iload_n 40 82 rfl rfl ?_
        refine im_aload_n 41 83 rfl rfl ?_
        refine im_getI 42 84 rfl fd_S_94 (by decide +kernel) (fun x7 => ?_)
        refine im_cWv (S := []) (fun _ hv => cpS (fr' := 1) (lo' := 20) (i := 43) (As := [.ref x6, .int a2, .int x7]) (S := []) rfl lk_S_28 mw_D_put_a mv_D_put_a rfl rfl rfl rfl (sp_D_put_a G hv)) (fun M4 => ?_)
        refine im_aload_n 44 90 rfl rfl ?_
        refine im_bipush 45 91 rfl rfl ?_
        refine im_cWi (S := []) (fun _ _ hv => cpV (fr' := 3) (lo' := 61) (i := 46) (As := [.int (11 : Int32)]) (S := []) (a := t) (c := 6) rfl lk_S_114 mw_S_takeNumber mv_S_takeNumber rfl ⟨by decide, rfl⟩ rfl rfl rfl (gd_some hv).1 (sp_S_takeNumber G hv)) (fun x8 M5 => ?_)
        refine im_istore 47 96 [some (.ref t), some (.ref a1), some (.int a2), some (.int x5), some (.int x8), none] rfl rfl rfl ?_
        refine im_aload_n 48 98 rfl rfl ?_
        refine im_getR 49 99 rfl fd_S_22 (by decide +kernel) (fun x9 => ?_)
        refine im_iload_n 50 102 rfl rfl ?_
        refine im_aload_n 51 103 rfl rfl ?_
        refine im_getI 52 104 rfl fd_S_94 (by decide +kernel) (fun x10 => ?_)
        refine im_cWv (S := []) (fun _ hv => cpS (fr' := 1) (lo' := 20) (i := 53) (As := [.ref x9, .int a2, .int x10]) (S := []) rfl lk_S_28 mw_D_put_a mv_D_put_a rfl rfl rfl rfl (sp_D_put_a G hv)) (fun M6 => ?_)
        refine im_aload_n 54 110 rfl rfl ?_
        refine im_bipush 55 111 rfl rfl ?_
        refine im_cWi (S := []) (fun _ _ hv => cpV (fr' := 3) (lo' := 61) (i := 56) (As := [.int (11 : Int32)]) (S := []) (a := t) (c := 6) rfl lk_S_114 mw_S_takeNumber mv_S_takeNumber rfl ⟨by decide, rfl⟩ rfl rfl rfl (gd_some hv).1 (sp_S_takeNumber G hv)) (fun x11 M7 => ?_)
        refine im_istore 57 116 [some (.ref t), some (.ref a1), some (.int a2), some (.int x5), some (.int x8), some (.int x11)] rfl rfl rfl ?_
        refine im_aload_n 58 118 rfl rfl ?_
        refine im_iload_n 59 119 rfl rfl ?_
        refine im_iload_n 60 120 rfl rfl ?_
        refine im_iload 61 121 rfl rfl ?_
        refine im_iload 62 123 rfl rfl ?_
        refine im_cWv (S := []) (fun _ hv => cpV (fr' := 2) (lo' := 42) (i := 63) (As := [.int a2, .int x5, .int x8, .int x11]) (S := []) (a := a1) (c := 7) rfl lk_S_139 mw_P_exitByBranch mv_P_exitByBranch rfl ⟨by decide, rfl⟩ rfl rfl rfl (gd_some hv).1 (sp_P_exitByBranch G hv)) (fun M8 => ?_)
        refine im_goto 64 128 140 rfl (by decide) ?_
        exact im_end rfl (wp_return 70 140 rfl rfl)
    · refine im_aload_n 14 30 rfl rfl ?_
      refine im_cWv (S := []) (fun _ hv => cpV (fr' := 2) (lo' := 41) (i := 15) (As := []) (S := []) (a := t) (c := 6) rfl lk_S_59 mw_S_readToken mv_S_readToken rfl ⟨by decide, rfl⟩ rfl rfl rfl (gd_some hv).1 (sp_S_readToken G hv)) (fun M9 => ?_)
      refine im_aload_n 16 34 rfl rfl ?_
      refine im_getR 17 35 rfl fd_S_19 (by decide +kernel) (fun x12 => ?_)
      refine im_iload_n 18 38 rfl rfl ?_
      refine im_aload_n 19 39 rfl rfl ?_
      refine im_getI 20 40 rfl fd_S_94 (by decide +kernel) (fun x13 => ?_)
      refine im_cWv (S := []) (fun _ hv => cpS (fr' := 1) (lo' := 20) (i := 21) (As := [.ref x12, .int a2, .int x13]) (S := []) rfl lk_S_28 mw_D_put_a mv_D_put_a rfl rfl rfl rfl (sp_D_put_a G hv)) (fun M10 => ?_)
      refine im_aload_n 22 46 rfl rfl ?_
      refine im_iload_n 23 47 rfl rfl ?_
      refine im_aload_n 24 48 rfl rfl ?_
      refine im_bipush 25 49 rfl rfl ?_
      refine im_cWi (S := [.int a2, .ref a1]) (fun _ _ hv => cpV (fr' := 3) (lo' := 61) (i := 26) (As := [.int (11 : Int32)]) (S := [.int a2, .ref a1]) (a := t) (c := 6) rfl lk_S_114 mw_S_takeNumber mv_S_takeNumber rfl ⟨by decide, rfl⟩ rfl rfl rfl (gd_some hv).1 (sp_S_takeNumber G hv)) (fun x14 M11 => ?_)
      refine im_cWv (S := []) (fun _ hv => cpV (fr' := 2) (lo' := 42) (i := 27) (As := [.int a2, .int x14]) (S := []) (a := a1) (c := 7) rfl lk_S_134 mw_P_exitByGoto mv_P_exitByGoto rfl ⟨by decide, rfl⟩ rfl rfl rfl (gd_some hv).1 (sp_P_exitByGoto G hv)) (fun M12 => ?_)
      refine im_goto 28 57 140 rfl (by decide) ?_
      exact im_end rfl (wp_return 70 140 rfl rfl)
  · refine im_aload_n 4 9 rfl rfl ?_
    refine im_cWv (S := []) (fun _ hv => cpV (fr' := 2) (lo' := 41) (i := 5) (As := []) (S := []) (a := t) (c := 6) rfl lk_S_59 mw_S_readToken mv_S_readToken rfl ⟨by decide, rfl⟩ rfl rfl rfl (gd_some hv).1 (sp_S_readToken G hv)) (fun M13 => ?_)
    refine im_aload_n 6 13 rfl rfl ?_
    refine im_iload_n 7 14 rfl rfl ?_
    refine im_cWv (S := []) (fun _ hv => cpV (fr' := 2) (lo' := 42) (i := 8) (As := [.int a2]) (S := []) (a := a1) (c := 7) rfl lk_S_129 mw_P_exitByStop mv_P_exitByStop rfl ⟨by decide, rfl⟩ rfl rfl rfl (gd_some hv).1 (sp_P_exitByStop G hv)) (fun M14 => ?_)
    refine im_goto 9 18 140 rfl (by decide) ?_
    exact im_end rfl (wp_return 70 140 rfl rfl)

theorem sp_S_parseExit (G : gl_T) {t : Nat} {a1 : Nat} {a2 : Int32} {M : mm_T} {y : mm_T} (h : ff_S_parseExit t a1 a2 M = some y) : sp_S mi_S_parseExit 6 193 G [.ref t, .ref a1, .int a2] M (sw_v y).1 (sw_v y).2 := sp_of mo_S_parseExit mw_S_parseExit (Or.inl (by decide +kernel)) rfl rfl (Or.inl rfl) (ip_S_parseExit G t a1 a2 M y h)

set_option maxRecDepth 100000 in
set_option maxHeartbeats 4000000 in
theorem ip_S_takeSemicolon (G : gl_T) (t : Nat) (M : mm_T) : im_I mi_S_takeSemicolon 3 61 G M sw_v (ff_S_takeSemicolon t M) 0 [some (.ref t)] [] M := by
  unfold ff_S_takeSemicolon
  refine im_gd (fun hg => ?_)
  refine im_aload_n 0 0 rfl rfl ?_
  refine im_getI 1 1 rfl fd_S_62 (by decide +kernel) (fun x1 => ?_)
  refine im_iconst 2 4 rfl rfl ?_
  refine im_ic_ne 3 5 15 rfl (by decide) ?_ ?_
  · refine im_aload_n 7 15 rfl rfl ?_
    refine im_iconst 8 16 rfl rfl ?_
    refine im_aload_n 9 17 rfl rfl ?_
    refine im_getI 10 18 rfl fd_S_94 (by decide +kernel) (fun x2 => ?_)
    refine im_cWv (S := []) (fun _ hv => cpV (fr' := 1) (lo' := 20) (i := 11) (As := [.int (1 : Int32), .int x2]) (S := []) (a := t) (c := 6) rfl lk_S_97 mw_S_fail mv_S_fail rfl ⟨by decide, rfl⟩ rfl rfl rfl (gd_some hv).1 (sp_S_fail G hv)) (fun M1 => ?_)
    exact im_end rfl (wp_return 12 24 rfl rfl)
  · refine im_aload_n 4 8 rfl rfl ?_
    refine im_cWv (S := []) (fun _ hv => cpV (fr' := 2) (lo' := 41) (i := 5) (As := []) (S := []) (a := t) (c := 6) rfl lk_S_59 mw_S_readToken mv_S_readToken rfl ⟨by decide, rfl⟩ rfl rfl rfl (gd_some hv).1 (sp_S_readToken G hv)) (fun M2 => ?_)
    refine im_goto 6 12 24 rfl (by decide) ?_
    exact im_end rfl (wp_return 12 24 rfl rfl)

theorem sp_S_takeSemicolon (G : gl_T) {t : Nat} {M : mm_T} {y : mm_T} (h : ff_S_takeSemicolon t M = some y) : sp_S mi_S_takeSemicolon 3 61 G [.ref t] M (sw_v y).1 (sw_v y).2 := sp_of mo_S_takeSemicolon mw_S_takeSemicolon (Or.inl (by decide +kernel)) rfl rfl (Or.inl rfl) (ip_S_takeSemicolon G t M y h)

set_option maxRecDepth 100000 in
set_option maxHeartbeats 4000000 in
theorem ip_P_wayCount (G : gl_T) (t : Nat) (a1 : Int32) (M : mm_T) : im_I mi_P_wayCount 2 41 G M (sh_i M) (ff_P_wayCount t a1 M) 0 [some (.ref t), some (.int a1)] [] M := by
  unfold ff_P_wayCount
  refine im_gd (fun hg => ?_)
  refine im_aload_n 0 0 rfl rfl ?_
  refine im_getR 1 1 rfl fd_P_18 (by decide +kernel) (fun x1 => ?_)
  refine im_iload_n 2 4 rfl rfl ?_
  refine im_ci (S := []) (fun _ hv => cpS (fr' := 1) (lo' := 20) (i := 3) (As := [.ref x1, .int a1]) (S := []) rfl lk_P_41 mw_D_at_a mv_D_at_a rfl rfl rfl rfl (sp_D_at_a G hv)) (fun x2 => ?_)
  exact im_end rfl (wp_ireturn 4 8 rfl rfl)

theorem sp_P_wayCount (G : gl_T) {t : Nat} {a1 : Int32} {M : mm_T} {y : Int32} (h : ff_P_wayCount t a1 M = some y) : sp_S mi_P_wayCount 2 41 G [.ref t, .int a1] M ((sh_i M) y).1 ((sh_i M) y).2 := sp_of mo_P_wayCount mw_P_wayCount (Or.inl (by decide +kernel)) rfl rfl (Or.inl rfl) (ip_P_wayCount G t a1 M y h)

set_option maxRecDepth 100000 in
set_option maxHeartbeats 4000000 in
theorem ip_P_wayOf (G : gl_T) (t : Nat) (a1 : Int32) (a2 : Int32) (M : mm_T) : im_I mi_P_wayOf 2 41 G M (sh_i M) (ff_P_wayOf t a1 a2 M) 0 [some (.ref t), some (.int a1), some (.int a2)] [] M := by
  unfold ff_P_wayOf
  refine im_gd (fun hg => ?_)
  refine im_iload_n 0 0 rfl rfl ?_
  refine im_if_ne 1 1 15 rfl (by decide) ?_ ?_
  · refine im_aload_n 7 15 rfl rfl ?_
    refine im_getR 8 16 rfl fd_P_27 (by decide +kernel) (fun x1 => ?_)
    refine im_iload_n 9 19 rfl rfl ?_
    refine im_ci (S := []) (fun _ hv => cpS (fr' := 1) (lo' := 20) (i := 10) (As := [.ref x1, .int a1]) (S := []) rfl lk_P_41 mw_D_at_a mv_D_at_a rfl rfl rfl rfl (sp_D_at_a G hv)) (fun x2 => ?_)
    exact im_end rfl (wp_ireturn 11 23 rfl rfl)
  · refine im_aload_n 2 4 rfl rfl ?_
    refine im_getR 3 5 rfl fd_P_24 (by decide +kernel) (fun x3 => ?_)
    refine im_iload_n 4 8 rfl rfl ?_
    refine im_ci (S := []) (fun _ hv => cpS (fr' := 1) (lo' := 20) (i := 5) (As := [.ref x3, .int a1]) (S := []) rfl lk_P_41 mw_D_at_a mv_D_at_a rfl rfl rfl rfl (sp_D_at_a G hv)) (fun x4 => ?_)
    refine im_goto 6 12 23 rfl (by decide) ?_
    exact im_end rfl (wp_ireturn 11 23 rfl rfl)

theorem sp_P_wayOf (G : gl_T) {t : Nat} {a1 : Int32} {a2 : Int32} {M : mm_T} {y : Int32} (h : ff_P_wayOf t a1 a2 M = some y) : sp_S mi_P_wayOf 2 41 G [.ref t, .int a1, .int a2] M ((sh_i M) y).1 ((sh_i M) y).2 := sp_of mo_P_wayOf mw_P_wayOf (Or.inl (by decide +kernel)) rfl rfl (Or.inl rfl) (ip_P_wayOf G t a1 a2 M y h)

set_option maxRecDepth 100000 in
set_option maxHeartbeats 4000000 in
theorem li_S_checkExits_2 (G : gl_T) (M0 : mm_T) (p0 : Nat) (p1 : Nat) : ∀ (fu : Nat) (q2 : Int32) (N : mm_T), im_I mi_S_checkExits 3 63 G M0 sw_v (lf_S_checkExits_2 p0 p1 fu q2 N) 2 [some (.ref p0), some (.ref p1), some (.int q2)] [] N := by
  intro fu
  induction fu with
  | zero => intro _ _; exact im_none
  | succ fu ih =>
    intro q2 N
    show im_I mi_S_checkExits 3 63 G M0 sw_v (lb_S_checkExits_2 p0 p1 (lf_S_checkExits_2 p0 p1 fu) q2 N) 2 [some (.ref p0), some (.ref p1), some (.int q2)] [] N
    unfold lb_S_checkExits_2
    refine im_iload_n 2 2 rfl rfl ?_
    refine im_aload_n 3 3 rfl rfl ?_
    refine im_getI 4 4 rfl fd_S_75 (by decide +kernel) (fun x1 => ?_)
    refine im_ic_ge 5 7 85 rfl (by decide) ?_ ?_
    · exact im_end rfl (wp_return 45 85 rfl rfl)
    · refine im_aload_n 6 10 rfl rfl ?_
      refine im_iload_n 7 11 rfl rfl ?_
      refine im_ci (S := []) (fun _ hv => cpV (fr' := 2) (lo' := 41) (i := 8) (As := [.int q2]) (S := []) (a := p1) (c := 7) rfl lk_S_143 mw_P_wayCount mv_P_wayCount rfl ⟨by decide, rfl⟩ rfl rfl rfl (gd_some hv).1 (sp_P_wayCount G hv)) (fun x2 => ?_)
      refine im_jp (fun j44 => ∀  (M1 : mm_T), im_I mi_S_checkExits 3 63 G M0 sw_v (j44 M1) 44 [some (.ref p0), some (.ref p1), some (.int q2)] [] M1) ?_ (fun j44 hj44 => ?_)
      · intro M1
        show im_I mi_S_checkExits 3 63 G M0 sw_v (_) 44 [some (.ref p0), some (.ref p1), some (.int q2)] [] M1
        refine im_aload_n 24 44 rfl rfl ?_
        refine im_iload_n 25 45 rfl rfl ?_
        refine im_ci (S := []) (fun _ hv => cpV (fr' := 2) (lo' := 41) (i := 26) (As := [.int q2]) (S := []) (a := p1) (c := 7) rfl lk_S_143 mw_P_wayCount mv_P_wayCount rfl ⟨by decide, rfl⟩ rfl rfl rfl (gd_some hv).1 (sp_P_wayCount G hv)) (fun x3 => ?_)
        refine im_iconst 27 49 rfl rfl ?_
        refine im_jp (fun j79 => ∀  (M2 : mm_T), im_I mi_S_checkExits 3 63 G M0 sw_v (j79 M2) 79 [some (.ref p0), some (.ref p1), some (.int q2)] [] M2) ?_ (fun j79 hj79 => ?_)
        · intro M2
          show im_I mi_S_checkExits 3 63 G M0 sw_v (_) 79 [some (.ref p0), some (.ref p1), some (.int q2)] [] M2
          refine im_iincL 43 79 (fun x4 => [some (.ref p0), some (.ref p1), some (.int x4)]) rfl rfl rfl rfl (fun _ => rfl) (fun x4 => ?_)
          refine im_goto 44 82 2 rfl (by decide) ?_
          exact im_less _ (by simp [lv_le]) (ih x4 M2)
        refine im_ic_le 28 50 79 rfl (by decide) ?_ ?_
        · exact im_less _ (by simp [lv_le]) (hj79 M1)
        · refine im_aload_n 29 53 rfl rfl ?_
          refine im_iload_n 30 54 rfl rfl ?_
          refine im_iconst 31 55 rfl rfl ?_
          refine im_ci (S := []) (fun _ hv => cpV (fr' := 2) (lo' := 41) (i := 32) (As := [.int q2, .int (1 : Int32)]) (S := []) (a := p1) (c := 7) rfl lk_S_146 mw_P_wayOf mv_P_wayOf rfl ⟨by decide, rfl⟩ rfl rfl rfl (gd_some hv).1 (sp_P_wayOf G hv)) (fun x5 => ?_)
          refine im_aload_n 33 59 rfl rfl ?_
          refine im_getI 34 60 rfl fd_S_75 (by decide +kernel) (fun x6 => ?_)
          refine im_ic_lt 35 63 79 rfl (by decide) ?_ ?_
          · exact im_less _ (by simp [lv_le]) (hj79 M1)
          · refine im_aload_n 36 66 rfl rfl ?_
            refine im_iconst 37 67 rfl rfl ?_
            refine im_aload_n 38 68 rfl rfl ?_
            refine im_getR 39 69 rfl fd_S_22 (by decide +kernel) (fun x7 => ?_)
            refine im_iload_n 40 72 rfl rfl ?_
            refine im_ci (S := [.int (4 : Int32), .ref p0]) (fun _ hv => cpS (fr' := 1) (lo' := 20) (i := 41) (As := [.ref x7, .int q2]) (S := [.int (4 : Int32), .ref p0]) rfl lk_S_150 mw_D_at_a mv_D_at_a rfl rfl rfl rfl (sp_D_at_a G hv)) (fun x8 => ?_)
            refine im_cWv (S := []) (fun _ hv => cpV (fr' := 1) (lo' := 20) (i := 42) (As := [.int (4 : Int32), .int x8]) (S := []) (a := p0) (c := 6) rfl lk_S_97 mw_S_fail mv_S_fail rfl ⟨by decide, rfl⟩ rfl rfl rfl (gd_some hv).1 (sp_S_fail G hv)) (fun M3 => ?_)
            exact im_less _ (by simp [lv_le]) (hj79 M3)
      refine im_if_le 9 15 44 rfl (by decide) ?_ ?_
      · exact im_less _ (by simp [lv_le]) (hj44 N)
      · refine im_aload_n 10 18 rfl rfl ?_
        refine im_iload_n 11 19 rfl rfl ?_
        refine im_iconst 12 20 rfl rfl ?_
        refine im_ci (S := []) (fun _ hv => cpV (fr' := 2) (lo' := 41) (i := 13) (As := [.int q2, .int (0 : Int32)]) (S := []) (a := p1) (c := 7) rfl lk_S_146 mw_P_wayOf mv_P_wayOf rfl ⟨by decide, rfl⟩ rfl rfl rfl (gd_some hv).1 (sp_P_wayOf G hv)) (fun x9 => ?_)
        refine im_aload_n 14 24 rfl rfl ?_
        refine im_getI 15 25 rfl fd_S_75 (by decide +kernel) (fun x10 => ?_)
        refine im_ic_lt 16 28 44 rfl (by decide) ?_ ?_
        · exact im_less _ (by simp [lv_le]) (hj44 N)
        · refine im_aload_n 17 31 rfl rfl ?_
          refine im_iconst 18 32 rfl rfl ?_
          refine im_aload_n 19 33 rfl rfl ?_
          refine im_getR 20 34 rfl fd_S_19 (by decide +kernel) (fun x11 => ?_)
          refine im_iload_n 21 37 rfl rfl ?_
          refine im_ci (S := [.int (4 : Int32), .ref p0]) (fun _ hv => cpS (fr' := 1) (lo' := 20) (i := 22) (As := [.ref x11, .int q2]) (S := [.int (4 : Int32), .ref p0]) rfl lk_S_150 mw_D_at_a mv_D_at_a rfl rfl rfl rfl (sp_D_at_a G hv)) (fun x12 => ?_)
          refine im_cWv (S := []) (fun _ hv => cpV (fr' := 1) (lo' := 20) (i := 23) (As := [.int (4 : Int32), .int x12]) (S := []) (a := p0) (c := 6) rfl lk_S_97 mw_S_fail mv_S_fail rfl ⟨by decide, rfl⟩ rfl rfl rfl (gd_some hv).1 (sp_S_fail G hv)) (fun M4 => ?_)
          exact im_less _ (by simp [lv_le]) (hj44 M4)

set_option maxRecDepth 100000 in
set_option maxHeartbeats 4000000 in
theorem ip_S_checkExits (G : gl_T) (t : Nat) (a1 : Nat) (M : mm_T) : im_I mi_S_checkExits 3 63 G M sw_v (ff_S_checkExits t a1 M) 0 [some (.ref t), some (.ref a1), none] [] M := by
  unfold ff_S_checkExits
  refine im_gd (fun hg => ?_)
  refine im_iconst 0 0 rfl rfl ?_
  refine im_istore_n 1 1 [some (.ref t), some (.ref a1), some (.int (0 : Int32))] rfl rfl rfl ?_
  refine im_less [some (.ref t), some (.ref a1), some (.int (0 : Int32))] (by simp [lv_le]) ?_
  exact li_S_checkExits_2 G M t a1 fu_L (0 : Int32) M

theorem sp_S_checkExits (G : gl_T) {t : Nat} {a1 : Nat} {M : mm_T} {y : mm_T} (h : ff_S_checkExits t a1 M = some y) : sp_S mi_S_checkExits 3 63 G [.ref t, .ref a1] M (sw_v y).1 (sw_v y).2 := sp_of mo_S_checkExits mw_S_checkExits (Or.inl (by decide +kernel)) rfl rfl (Or.inl rfl) (ip_S_checkExits G t a1 M y h)

set_option maxRecDepth 100000 in
set_option maxHeartbeats 4000000 in
theorem li_S_parse_27 (G : gl_T) (M0 : mm_T) (k0 : mm_T → Option (Int32 × mm_T)) (p0 : Nat) (p1 : Nat) (hk0 : ∀ (N : mm_T), im_I mi_S_parse 8 241 G M0 sw_i (k0 N) 109 [some (.ref p0), some (.ref p1), none, none] [] N) : ∀ (fu : Nat) (q2 : Int32) (q3 : Int32) (N : mm_T), im_I mi_S_parse 8 241 G M0 sw_i (lf_S_parse_27 k0 p0 p1 fu q2 q3 N) 27 [some (.ref p0), some (.ref p1), some (.int q2), some (.int q3)] [] N := by
  intro fu
  induction fu with
  | zero => intro _ _ _; exact im_none
  | succ fu ih =>
    intro q2 q3 N
    show im_I mi_S_parse 8 241 G M0 sw_i (lb_S_parse_27 k0 p0 p1 (lf_S_parse_27 k0 p0 p1 fu) q2 q3 N) 27 [some (.ref p0), some (.ref p1), some (.int q2), some (.int q3)] [] N
    unfold lb_S_parse_27
    refine im_iload_n 17 27 rfl rfl ?_
    refine im_sipush 18 28 rfl rfl ?_
    refine im_ic_gt 19 31 109 rfl (by decide) ?_ ?_
    · exact im_less _ (by simp [lv_le]) (hk0 N)
    · refine im_aload_n 20 34 rfl rfl ?_
      refine im_getI 21 35 rfl fd_S_48 (by decide +kernel) (fun x1 => ?_)
      refine im_if_ne 22 38 109 rfl (by decide) ?_ ?_
      · exact im_less _ (by simp [lv_le]) (hk0 N)
      · refine im_iload_n 23 41 rfl rfl ?_
        refine im_jp (fun j56 => im_I mi_S_parse 8 241 G M0 sw_i (j56) 56 [some (.ref p0), some (.ref p1), some (.int q2), some (.int q3)] [] N) ?_ (fun j56 hj56 => ?_)
        · show im_I mi_S_parse 8 241 G M0 sw_i (_) 56 [some (.ref p0), some (.ref p1), some (.int q2), some (.int q3)] [] N
          refine im_iload_n 30 56 rfl rfl ?_
          refine im_jp (fun j99 => ∀ (x2 : Int32) (M6 : mm_T), im_I mi_S_parse 8 241 G M0 sw_i (j99 x2 M6) 99 [some (.ref p0), some (.ref p1), some (.int x2), some (.int q3)] [] M6) ?_ (fun j99 hj99 => ?_)
          · intro x2 M6
            show im_I mi_S_parse 8 241 G M0 sw_i (_) 99 [some (.ref p0), some (.ref p1), some (.int x2), some (.int q3)] [] M6
            refine im_aload_n 55 99 rfl rfl ?_
            refine im_cWv (S := []) (fun _ hv => cpV (fr' := 3) (lo' := 61) (i := 56) (As := []) (S := []) (a := p0) (c := 6) rfl lk_S_82 mw_S_takeSemicolon mv_S_takeSemicolon rfl ⟨by decide, rfl⟩ rfl rfl rfl (gd_some hv).1 (sp_S_takeSemicolon G hv)) (fun M7 => ?_)
            refine im_iincL 57 103 (fun x3 => [some (.ref p0), some (.ref p1), some (.int x2), some (.int x3)]) rfl rfl rfl rfl (fun _ => rfl) (fun x3 => ?_)
            refine im_goto 58 106 27 rfl (by decide) ?_
            exact im_less _ (by simp [lv_le]) (ih x2 x3 M7)
          refine im_if_ne 31 57 70 rfl (by decide) ?_ ?_
          · refine im_aload_n 38 70 rfl rfl ?_
            refine im_ci (S := []) (fun _ hv => cpV (fr' := 6) (lo' := 193) (i := 39) (As := []) (S := []) (a := p0) (c := 6) rfl lk_S_69 mw_S_instructionKind mv_S_instructionKind rfl ⟨by decide, rfl⟩ rfl rfl rfl (gd_some hv).1 (sp_S_instructionKind G hv)) (fun x4 => ?_)
            refine im_iconst 40 74 rfl rfl ?_
            refine im_ic_eq 41 75 86 rfl (by decide) ?_ ?_
            · refine im_aload_n 46 86 rfl rfl ?_
              refine im_aload_n 47 87 rfl rfl ?_
              refine im_aload_n 48 88 rfl rfl ?_
              refine im_getI 49 89 rfl fd_S_75 (by decide +kernel) (fun x5 => ?_)
              refine im_iconst 50 92 rfl rfl ?_
              refine im_isub 51 93 rfl ?_
              refine im_cWv (S := []) (fun _ hv => cpV (fr' := 6) (lo' := 193) (i := 52) (As := [.ref p1, .int (x5 - (1 : Int32))]) (S := []) (a := p0) (c := 6) rfl lk_S_78 mw_S_parseExit mv_S_parseExit rfl ⟨by decide, rfl⟩ rfl rfl rfl (gd_some hv).1 (sp_S_parseExit G hv)) (fun M8 => ?_)
              refine im_iconst 53 97 rfl rfl ?_
              refine im_istore_n 54 98 [some (.ref p0), some (.ref p1), some (.int (0 : Int32)), some (.int q3)] rfl rfl rfl ?_
              exact im_less _ (by simp [lv_le]) (hj99 (0 : Int32) M8)
            · refine im_aload_n 42 78 rfl rfl ?_
              refine im_aload_n 43 79 rfl rfl ?_
              refine im_cWv (S := []) (fun _ hv => cpV (fr' := 7) (lo' := 214) (i := 44) (As := [.ref p1]) (S := []) (a := p0) (c := 6) rfl lk_S_72 mw_S_parseInstruction mv_S_parseInstruction rfl ⟨by decide, rfl⟩ rfl rfl rfl (gd_some hv).1 (sp_S_parseInstruction G hv)) (fun M9 => ?_)
              refine im_goto 45 83 99 rfl (by decide) ?_
              exact im_less _ (by simp [lv_le]) (hj99 q2 M9)
          · refine im_aload_n 32 60 rfl rfl ?_
            refine im_aload_n 33 61 rfl rfl ?_
            refine im_cWv (S := []) (fun _ hv => cpV (fr' := 6) (lo' := 193) (i := 34) (As := [.ref p1]) (S := []) (a := p0) (c := 6) rfl lk_S_65 mw_S_parseHead mv_S_parseHead rfl ⟨by decide, rfl⟩ rfl rfl rfl (gd_some hv).1 (sp_S_parseHead G hv)) (fun M10 => ?_)
            refine im_iconst 35 65 rfl rfl ?_
            refine im_istore_n 36 66 [some (.ref p0), some (.ref p1), some (.int (1 : Int32)), some (.int q3)] rfl rfl rfl ?_
            refine im_goto 37 67 99 rfl (by decide) ?_
            exact im_less _ (by simp [lv_le]) (hj99 (1 : Int32) M10)
        refine im_if_eq 24 42 56 rfl (by decide) ?_ ?_
        · exact im_less _ (by simp [lv_le]) (hj56)
        · refine im_iload_n 25 45 rfl rfl ?_
          refine im_if_ne 26 46 56 rfl (by decide) ?_ ?_
          · exact im_less _ (by simp [lv_le]) (hj56)
          · refine im_aload_n 27 49 rfl rfl ?_
            refine im_getI 28 50 rfl fd_S_62 (by decide +kernel) (fun x6 => ?_)
            refine im_if_eq 29 53 109 rfl (by decide) ?_ ?_
            · exact im_less _ (by simp [lv_le]) (hk0 N)
            · exact im_less _ (by simp [lv_le]) (hj56)

set_option maxRecDepth 100000 in
set_option maxHeartbeats 4000000 in
theorem ip_S_parse (G : gl_T) (t : Nat) (a1 : Nat) (M : mm_T) : im_I mi_S_parse 8 241 G M sw_i (ff_S_parse t a1 M) 0 [some (.ref t), some (.ref a1), none, none] [] M := by
  unfold ff_S_parse
  refine im_gd (fun hg => ?_)
  refine im_aload_n 0 0 rfl rfl ?_
  refine im_iconst 1 1 rfl rfl ?_
  refine im_putI 2 2 rfl fd_S_48 (Or.inl (by decide +kernel)) (by decide +kernel) (fun M1 => ?_)
  refine im_aload_n 3 5 rfl rfl ?_
  refine im_iconst 4 6 rfl rfl ?_
  refine im_putI 5 7 rfl fd_S_15 (Or.inl (by decide +kernel)) (by decide +kernel) (fun M2 => ?_)
  refine im_aload_n 6 10 rfl rfl ?_
  refine im_cWv (S := []) (fun _ hv => cpV (fr' := 1) (lo' := 20) (i := 7) (As := []) (S := []) (a := a1) (c := 7) rfl lk_S_51 mw_P_clear mv_P_clear rfl ⟨by decide, rfl⟩ rfl rfl rfl (gd_some hv).1 (sp_P_clear G hv)) (fun M3 => ?_)
  refine im_aload_n 8 14 rfl rfl ?_
  refine im_iconst 9 15 rfl rfl ?_
  refine im_putI 10 16 rfl fd_S_56 (Or.inl (by decide +kernel)) (by decide +kernel) (fun M4 => ?_)
  refine im_aload_n 11 19 rfl rfl ?_
  refine im_cWv (S := []) (fun _ hv => cpV (fr' := 2) (lo' := 41) (i := 12) (As := []) (S := []) (a := t) (c := 6) rfl lk_S_59 mw_S_readToken mv_S_readToken rfl ⟨by decide, rfl⟩ rfl rfl rfl (gd_some hv).1 (sp_S_readToken G hv)) (fun M5 => ?_)
  refine im_iconst 13 23 rfl rfl ?_
  refine im_istore_n 14 24 [some (.ref t), some (.ref a1), some (.int (0 : Int32)), none] rfl rfl rfl ?_
  refine im_iconst 15 25 rfl rfl ?_
  refine im_istore_n 16 26 [some (.ref t), some (.ref a1), some (.int (0 : Int32)), some (.int (0 : Int32))] rfl rfl rfl ?_
  refine im_less [some (.ref t), some (.ref a1), some (.int (0 : Int32)), some (.int (0 : Int32))] (by simp [lv_le]) ?_
  refine li_S_parse_27 G M _ t a1 ?_ fu_L (0 : Int32) (0 : Int32) M5
  · intro M11
    show im_I mi_S_parse 8 241 G M sw_i (_) 109 [some (.ref t), some (.ref a1), none, none] [] M11
    refine im_aload_n 59 109 rfl rfl ?_
    refine im_aload_n 60 110 rfl rfl ?_
    refine im_cWv (S := []) (fun _ hv => cpV (fr' := 3) (lo' := 63) (i := 61) (As := [.ref a1]) (S := []) (a := t) (c := 6) rfl lk_S_85 mw_S_checkExits mv_S_checkExits rfl ⟨by decide, rfl⟩ rfl rfl rfl (gd_some hv).1 (sp_S_checkExits G hv)) (fun M12 => ?_)
    refine im_aload_n 62 114 rfl rfl ?_
    refine im_getI 63 115 rfl fd_S_48 (by decide +kernel) (fun x7 => ?_)
    refine im_if_ne 64 118 125 rfl (by decide) ?_ ?_
    · refine im_iconst 67 125 rfl rfl ?_
      exact im_end rfl (wp_zreturn 68 126 (ty := .boolean) rfl (by first | exact nz_0 | exact nz_1) rfl)
    · refine im_iconst 65 121 rfl rfl ?_
      refine im_goto 66 122 126 rfl (by decide) ?_
      exact im_end rfl (wp_zreturn 68 126 (ty := .boolean) rfl (by first | exact nz_0 | exact nz_1) rfl)

theorem sp_S_parse (G : gl_T) {t : Nat} {a1 : Nat} {M : mm_T} {y : Int32 × mm_T} (h : ff_S_parse t a1 M = some y) : sp_S mi_S_parse 8 241 G [.ref t, .ref a1] M (sw_i y).1 (sw_i y).2 := sp_of mo_S_parse mw_S_parse (Or.inl (by decide +kernel)) rfl rfl (Or.inl rfl) (ip_S_parse G t a1 M y h)

set_option maxRecDepth 100000 in
set_option maxHeartbeats 4000000 in
theorem ip_D_firstProgram (G : gl_T)  (M : mm_T) : im_I mi_D_firstProgram 9 264 G M sw_r (ff_D_firstProgram  M) 0 [none, none] [] M := by
  unfold ff_D_firstProgram
  refine im_new 0 0 rfl nw_D_16 (fun x1 M1 => ?_)
  refine im_dup 1 3 rfl rfl ?_
  refine im_cWv (S := [.ref x1]) (fun _ hv => cpI (fr' := 1) (lo' := 20) (i := 2) (As := []) (S := [.ref x1]) (a := x1) rfl lk_D_18 mw_S_init mv_S_init rfl ⟨rfl, rfl⟩ rfl rfl rfl (gd_in (gd_some hv).1 (by decide)) (sp_S_init G hv)) (fun M2 => ?_)
  refine im_astore_n 3 7 [some (.ref x1), none] rfl rfl rfl ?_
  refine im_new 4 8 rfl nw_D_7 (fun x2 M3 => ?_)
  refine im_dup 5 11 rfl rfl ?_
  refine im_cWv (S := [.ref x2]) (fun _ hv => cpI (fr' := 1) (lo' := 20) (i := 6) (As := []) (S := [.ref x2]) (a := x2) rfl lk_D_9 mw_P_init mv_P_init rfl ⟨rfl, rfl⟩ rfl rfl rfl (gd_in (gd_some hv).1 (by decide)) (sp_P_init G hv)) (fun M4 => ?_)
  refine im_astore_n 7 15 [some (.ref x1), some (.ref x2)] rfl rfl rfl ?_
  refine im_aload_n 8 16 rfl rfl ?_
  refine im_ldcWS 9 17 rfl (List.mem_of_getElem? (i := 0) rfl) ?_
  refine im_cWv (S := []) (fun _ hv => cpV (fr' := 5) (lo' := 171) (i := 10) (As := [.ref (st_B + 0)]) (S := []) (a := x1) (c := 6) rfl lk_D_463 mw_S_fillBuffer mv_S_fillBuffer rfl ⟨by decide, rfl⟩ rfl rfl rfl (gd_some hv).1 (sp_S_fillBuffer G hv)) (fun M5 => ?_)
  refine im_aload_n 11 23 rfl rfl ?_
  refine im_aload_n 12 24 rfl rfl ?_
  refine im_cWi (S := []) (fun _ _ hv => cpV (fr' := 8) (lo' := 241) (i := 13) (As := [.ref x2]) (S := []) (a := x1) (c := 6) rfl lk_D_113 mw_S_parse mv_S_parse rfl ⟨by decide, rfl⟩ rfl rfl rfl (gd_some hv).1 (sp_S_parse G hv)) (fun x3 M6 => ?_)
  refine im_pop 14 28 rfl rfl ?_
  refine im_aload_n 15 29 rfl rfl ?_
  exact im_end rfl (wp_areturn 16 30 rfl (Or.inl ⟨_, rfl⟩) rfl)

theorem sp_D_firstProgram (G : gl_T) {M : mm_T} {y : Nat × mm_T} (h : ff_D_firstProgram  M = some y) : sp_S mi_D_firstProgram 9 264 G [] M (sw_r y).1 (sw_r y).2 := sp_of mo_D_firstProgram mw_D_firstProgram (Or.inl (by decide +kernel)) rfl rfl (Or.inl rfl) (ip_D_firstProgram G  M y h)

set_option maxRecDepth 100000 in
set_option maxHeartbeats 4000000 in
theorem ip_D_init (G : gl_T) (t : Nat) (M : mm_T) : im_I mi_D_init 10 285 G M sw_v (ff_D_init t M) 0 [some (.ref t)] [] M := by
  unfold ff_D_init
  refine im_gd (fun hg => ?_)
  refine im_aload_n 0 0 rfl rfl ?_
  refine im_objInit 1 1 ob_D_1 rfl (gd_in hg (by decide)) rfl rfl rfl ?_
  refine im_aload_n 2 4 rfl rfl ?_
  refine im_new 3 5 rfl nw_D_7 (fun x1 M1 => ?_)
  refine im_dup 4 8 rfl rfl ?_
  refine im_cWv (S := [.ref x1, .ref t]) (fun _ hv => cpI (fr' := 1) (lo' := 20) (i := 5) (As := []) (S := [.ref x1, .ref t]) (a := x1) rfl lk_D_9 mw_P_init mv_P_init rfl ⟨rfl, rfl⟩ rfl rfl rfl (gd_in (gd_some hv).1 (by decide)) (sp_P_init G hv)) (fun M2 => ?_)
  refine im_putR 6 12 rfl fd_D_10 (Or.inr ⟨rfl, rfl⟩) (by decide +kernel) (fun M3 => ?_)
  refine im_aload_n 7 15 rfl rfl ?_
  refine im_new 8 16 rfl nw_D_16 (fun x2 M4 => ?_)
  refine im_dup 9 19 rfl rfl ?_
  refine im_cWv (S := [.ref x2, .ref t]) (fun _ hv => cpI (fr' := 1) (lo' := 20) (i := 10) (As := []) (S := [.ref x2, .ref t]) (a := x2) rfl lk_D_18 mw_S_init mv_S_init rfl ⟨rfl, rfl⟩ rfl rfl rfl (gd_in (gd_some hv).1 (by decide)) (sp_S_init G hv)) (fun M5 => ?_)
  refine im_putR 11 23 rfl fd_D_19 (Or.inr ⟨rfl, rfl⟩) (by decide +kernel) (fun M6 => ?_)
  refine im_aload_n 12 26 rfl rfl ?_
  refine im_new 13 27 rfl nw_D_23 (fun x3 M7 => ?_)
  refine im_dup 14 30 rfl rfl ?_
  refine im_cWv (S := [.ref x3, .ref t]) (fun _ hv => cpI (fr' := 1) (lo' := 20) (i := 15) (As := []) (S := [.ref x3, .ref t]) (a := x3) rfl lk_D_25 mw_W_init mv_W_init rfl ⟨rfl, rfl⟩ rfl rfl rfl (gd_in (gd_some hv).1 (by decide)) (sp_W_init G hv)) (fun M8 => ?_)
  refine im_putR 16 34 rfl fd_D_26 (Or.inr ⟨rfl, rfl⟩) (by decide +kernel) (fun M9 => ?_)
  refine im_aload_n 17 37 rfl rfl ?_
  refine im_new 18 38 rfl nw_D_30 (fun x4 M10 => ?_)
  refine im_dup 19 41 rfl rfl ?_
  refine im_cWv (S := [.ref x4, .ref t]) (fun _ hv => cpI (fr' := 1) (lo' := 20) (i := 20) (As := []) (S := [.ref x4, .ref t]) (a := x4) rfl lk_D_32 mw_H_init mv_H_init rfl ⟨rfl, rfl⟩ rfl rfl rfl (gd_in (gd_some hv).1 (by decide)) (sp_H_init G hv)) (fun M11 => ?_)
  refine im_putR 21 45 rfl fd_D_33 (Or.inr ⟨rfl, rfl⟩) (by decide +kernel) (fun M12 => ?_)
  refine im_aload_n 22 48 rfl rfl ?_
  refine im_iconst 23 49 rfl rfl ?_
  refine im_newR 24 50 rfl (tb_m 179 (by decide +kernel) rfl) (fun x5 M13 => ?_)
  refine im_putR 25 53 rfl fd_D_37 (Or.inr ⟨rfl, rfl⟩) (by decide +kernel) (fun M14 => ?_)
  refine im_aload_n 26 56 rfl rfl ?_
  refine im_new 27 57 rfl nw_D_41 (fun x6 M15 => ?_)
  refine im_dup 28 60 rfl rfl ?_
  refine im_cWv (S := [.ref x6, .ref t]) (fun _ hv => cpI (fr' := 1) (lo' := 20) (i := 29) (As := []) (S := [.ref x6, .ref t]) (a := x6) rfl lk_D_43 mw_G_init mv_G_init rfl ⟨rfl, rfl⟩ rfl rfl rfl (gd_in (gd_some hv).1 (by decide)) (sp_G_init G hv)) (fun M16 => ?_)
  refine im_putR 30 64 rfl fd_D_44 (Or.inr ⟨rfl, rfl⟩) (by decide +kernel) (fun M17 => ?_)
  refine im_aload_n 31 67 rfl rfl ?_
  refine im_new 32 68 rfl nw_D_48 (fun x7 M18 => ?_)
  refine im_dup 33 71 rfl rfl ?_
  refine im_cWv (S := [.ref x7, .ref t]) (fun _ hv => cpI (fr' := 1) (lo' := 20) (i := 34) (As := []) (S := [.ref x7, .ref t]) (a := x7) rfl lk_D_50 mw_R_init mv_R_init rfl ⟨rfl, rfl⟩ rfl rfl rfl (gd_in (gd_some hv).1 (by decide)) (sp_R_init G hv)) (fun M19 => ?_)
  refine im_putR 35 75 rfl fd_D_51 (Or.inr ⟨rfl, rfl⟩) (by decide +kernel) (fun M20 => ?_)
  refine im_aload_n 36 78 rfl rfl ?_
  refine im_new 37 79 rfl nw_D_55 (fun x8 M21 => ?_)
  refine im_dup 38 82 rfl rfl ?_
  refine im_cWv (S := [.ref x8, .ref t]) (fun _ hv => cpI (fr' := 1) (lo' := 20) (i := 39) (As := []) (S := [.ref x8, .ref t]) (a := x8) rfl lk_D_57 mw_L_init mv_L_init rfl ⟨rfl, rfl⟩ rfl rfl rfl (gd_in (gd_some hv).1 (by decide)) (sp_L_init G hv)) (fun M22 => ?_)
  refine im_putR 40 86 rfl fd_D_58 (Or.inr ⟨rfl, rfl⟩) (by decide +kernel) (fun M23 => ?_)
  refine im_aload_n 41 89 rfl rfl ?_
  refine im_new 42 90 rfl nw_D_62 (fun x9 M24 => ?_)
  refine im_dup 43 93 rfl rfl ?_
  refine im_cWv (S := [.ref x9, .ref t]) (fun _ hv => cpI (fr' := 1) (lo' := 20) (i := 44) (As := []) (S := [.ref x9, .ref t]) (a := x9) rfl lk_D_64 mw_A_init mv_A_init rfl ⟨rfl, rfl⟩ rfl rfl rfl (gd_in (gd_some hv).1 (by decide)) (sp_A_init G hv)) (fun M25 => ?_)
  refine im_putR 45 97 rfl fd_D_65 (Or.inr ⟨rfl, rfl⟩) (by decide +kernel) (fun M26 => ?_)
  refine im_aload_n 46 100 rfl rfl ?_
  refine im_new 47 101 rfl nw_D_69 (fun x10 M27 => ?_)
  refine im_dup 48 104 rfl rfl ?_
  refine im_cWv (S := [.ref x10, .ref t]) (fun _ hv => cpI (fr' := 1) (lo' := 20) (i := 49) (As := []) (S := [.ref x10, .ref t]) (a := x10) rfl lk_D_71 mw_C_init mv_C_init rfl ⟨rfl, rfl⟩ rfl rfl rfl (gd_in (gd_some hv).1 (by decide)) (sp_C_init G hv)) (fun M28 => ?_)
  refine im_putR 50 108 rfl fd_D_72 (Or.inr ⟨rfl, rfl⟩) (by decide +kernel) (fun M29 => ?_)
  refine im_aload_n 51 111 rfl rfl ?_
  refine im_new 52 112 rfl nw_D_76 (fun x11 M30 => ?_)
  refine im_dup 53 115 rfl rfl ?_
  refine im_cWv (S := [.ref x11, .ref t]) (fun _ hv => cpI (fr' := 1) (lo' := 20) (i := 54) (As := []) (S := [.ref x11, .ref t]) (a := x11) rfl lk_D_78 mw_N_init mv_N_init rfl ⟨rfl, rfl⟩ rfl rfl rfl (gd_in (gd_some hv).1 (by decide)) (sp_N_init G hv)) (fun M31 => ?_)
  refine im_putR 55 119 rfl fd_D_79 (Or.inr ⟨rfl, rfl⟩) (by decide +kernel) (fun M32 => ?_)
  refine im_aload_n 56 122 rfl rfl ?_
  refine im_cWr (S := [.ref t]) (fun _ _ hv => cpS (fr' := 9) (lo' := 264) (i := 57) (As := []) (S := [.ref t]) rfl lk_D_83 mw_D_firstProgram mv_D_firstProgram rfl rfl rfl rfl (sp_D_firstProgram G hv)) (fun x12 M33 => ?_)
  refine im_putR 58 126 rfl fd_D_87 (Or.inr ⟨rfl, rfl⟩) (by decide +kernel) (fun M34 => ?_)
  exact im_end rfl (wp_return 59 129 rfl rfl)

theorem sp_D_init (G : gl_T) {t : Nat} {M : mm_T} {y : mm_T} (h : ff_D_init t M = some y) : sp_S mi_D_init 10 285 G [.ref t] M (sw_v y).1 (sw_v y).2 := sp_of mo_D_init mw_D_init (Or.inl (by decide +kernel)) rfl rfl (Or.inl rfl) (ip_D_init G t M y h)

set_option maxRecDepth 100000 in
set_option maxHeartbeats 4000000 in
theorem ip_S_textLength (G : gl_T) (t : Nat) (M : mm_T) : im_I mi_S_textLength 1 20 G M (sh_i M) (ff_S_textLength t M) 0 [some (.ref t)] [] M := by
  unfold ff_S_textLength
  refine im_gd (fun hg => ?_)
  refine im_aload_n 0 0 rfl rfl ?_
  refine im_getI 1 1 rfl fd_S_25 (by decide +kernel) (fun x1 => ?_)
  exact im_end rfl (wp_ireturn 2 4 rfl rfl)

theorem sp_S_textLength (G : gl_T) {t : Nat} {M : mm_T} {y : Int32} (h : ff_S_textLength t M = some y) : sp_S mi_S_textLength 1 20 G [.ref t] M ((sh_i M) y).1 ((sh_i M) y).2 := sp_of mo_S_textLength mw_S_textLength (Or.inl (by decide +kernel)) rfl rfl (Or.inl rfl) (ip_S_textLength G t M y h)

set_option maxRecDepth 100000 in
set_option maxHeartbeats 4000000 in
theorem li_D_appendText_28 (G : gl_T) (M0 : mm_T) (k0 : mm_T → Option ((Int32 ⊕ String) × mm_T)) (p0 : Nat) (p1 : Int32) (hk0 : ∀ (N : mm_T), im_I mi_D_appendText 6 90 G M0 sX_i (k0 N) 52 [some (.ref p0), none, none] [] N) : ∀ (fu : Nat) (q2 : Int32) (N : mm_T), im_I mi_D_appendText 6 90 G M0 sX_i (lf_D_appendText_28 k0 p0 p1 fu q2 N) 28 [some (.ref p0), some (.int p1), some (.int q2)] [] N := by
  intro fu
  induction fu with
  | zero => intro _ _; exact im_none
  | succ fu ih =>
    intro q2 N
    show im_I mi_D_appendText 6 90 G M0 sX_i (lb_D_appendText_28 k0 p0 p1 (lf_D_appendText_28 k0 p0 p1 fu) q2 N) 28 [some (.ref p0), some (.int p1), some (.int q2)] [] N
    unfold lb_D_appendText_28
    refine im_iload_n 14 28 rfl rfl ?_
    refine im_if_lt 15 29 52 rfl (by decide) ?_ ?_
    · exact im_less _ (by simp [lv_le]) (hk0 N)
    · refine im_aload_n 16 32 rfl rfl ?_
      refine im_getR 17 33 rfl fd_D_19 (by decide +kernel) (fun x3 => ?_)
      refine im_iload_n 18 36 rfl rfl ?_
      refine im_iload_n 19 37 rfl rfl ?_
      refine im_iushr 20 38 rfl ?_
      refine im_sipush 21 39 rfl rfl ?_
      refine im_iand 22 42 rfl ?_
      refine im_cWv (S := []) (fun _ hv => cpV (fr' := 2) (lo' := 42) (i := 23) (As := [.int ((io_ushr p1 q2) &&& (255 : Int32))]) (S := []) (a := x3) (c := 6) rfl lk_D_101 mw_S_addByte mv_S_addByte rfl ⟨by decide, rfl⟩ rfl rfl rfl (gd_some hv).1 (sp_S_addByte G hv)) (fun M1 => ?_)
      refine im_iincL 24 46 (fun x4 => [some (.ref p0), some (.int p1), some (.int x4)]) rfl rfl rfl rfl (fun _ => rfl) (fun x4 => ?_)
      refine im_goto 25 49 28 rfl (by decide) ?_
      exact im_less _ (by simp [lv_le]) (ih x4 M1)

set_option maxRecDepth 100000 in
set_option maxHeartbeats 4000000 in
theorem ip_D_appendText (G : gl_T) (t : Nat) (a1 : Int32) (M : mm_T) : im_I mi_D_appendText 6 90 G M sX_i (ff_D_appendText t a1 M) 0 [some (.ref t), some (.int a1), none] [] M := by
  unfold ff_D_appendText
  refine im_gd (fun hg => ?_)
  refine im_aload_n 0 0 rfl rfl ?_
  refine im_getR 1 1 rfl fd_D_19 (by decide +kernel) (fun x1 => ?_)
  refine im_ci (S := []) (fun _ hv => cpV (fr' := 1) (lo' := 20) (i := 2) (As := []) (S := []) (a := x1) (c := 6) rfl lk_D_90 mw_S_textLength mv_S_textLength rfl ⟨by decide, rfl⟩ rfl rfl rfl (gd_some hv).1 (sp_S_textLength G hv)) (fun x2 => ?_)
  refine im_iconst 3 7 rfl rfl ?_
  refine im_iadd 4 8 rfl ?_
  refine im_sipush 5 9 rfl rfl ?_
  refine im_ic_le 6 12 25 rfl (by decide) ?_ ?_
  · refine im_bipush 12 25 rfl rfl ?_
    refine im_istore_n 13 27 [some (.ref t), some (.int a1), some (.int (24 : Int32))] rfl rfl rfl ?_
    refine im_less [some (.ref t), some (.int a1), some (.int (24 : Int32))] (by simp [lv_le]) ?_
    refine li_D_appendText_28 G M _ t a1 ?_ fu_L (24 : Int32) M
    · intro M2
      show im_I mi_D_appendText 6 90 G M sX_i (_) 52 [some (.ref t), none, none] [] M2
      refine im_aload_n 26 52 rfl rfl ?_
      refine im_getR 27 53 rfl fd_D_19 (by decide +kernel) (fun x5 => ?_)
      refine im_ci (S := []) (fun _ hv => cpV (fr' := 1) (lo' := 20) (i := 28) (As := []) (S := []) (a := x5) (c := 6) rfl lk_D_90 mw_S_textLength mv_S_textLength rfl ⟨by decide, rfl⟩ rfl rfl rfl (gd_some hv).1 (sp_S_textLength G hv)) (fun x6 => ?_)
      exact im_end rfl (wp_ireturn 29 59 rfl rfl)
  · exact im_endX rfl (wp_throw (i := 7) th_D_94_96_98 rfl rfl rfl rfl rfl rfl rfl rfl rfl rfl)

theorem sp_D_appendText (G : gl_T) {t : Nat} {a1 : Int32} {M : mm_T} {y : (Int32 ⊕ String) × mm_T} (h : ff_D_appendText t a1 M = some y) : sp_S mi_D_appendText 6 90 G [.ref t, .int a1] M (sX_i y).1 (sX_i y).2 := sp_of mo_D_appendText mw_D_appendText (Or.inl (by decide +kernel)) rfl rfl (Or.inl rfl) (ip_D_appendText G t a1 M y h)

set_option maxRecDepth 100000 in
set_option maxHeartbeats 4000000 in
theorem ip_S_cutBuffer (G : gl_T) (t : Nat) (a1 : Int32) (M : mm_T) : im_I mi_S_cutBuffer 1 20 G M sw_v (ff_S_cutBuffer t a1 M) 0 [some (.ref t), some (.int a1)] [] M := by
  unfold ff_S_cutBuffer
  refine im_gd (fun hg => ?_)
  refine im_aload_n 0 0 rfl rfl ?_
  refine im_iload_n 1 1 rfl rfl ?_
  refine im_putI 2 2 rfl fd_S_25 (Or.inl (by decide +kernel)) (by decide +kernel) (fun M1 => ?_)
  exact im_end rfl (wp_return 3 5 rfl rfl)

theorem sp_S_cutBuffer (G : gl_T) {t : Nat} {a1 : Int32} {M : mm_T} {y : mm_T} (h : ff_S_cutBuffer t a1 M = some y) : sp_S mi_S_cutBuffer 1 20 G [.ref t, .int a1] M (sw_v y).1 (sw_v y).2 := sp_of mo_S_cutBuffer mw_S_cutBuffer (Or.inl (by decide +kernel)) rfl rfl (Or.inl rfl) (ip_S_cutBuffer G t a1 M y h)

set_option maxRecDepth 100000 in
set_option maxHeartbeats 4000000 in
theorem ip_D_truncateText (G : gl_T) (t : Nat) (a1 : Int32) (M : mm_T) : im_I mi_D_truncateText 6 90 G M sX_i (ff_D_truncateText t a1 M) 0 [some (.ref t), some (.int a1)] [] M := by
  unfold ff_D_truncateText
  refine im_gd (fun hg => ?_)
  refine im_iload_n 0 0 rfl rfl ?_
  refine im_jp (fun j15 => im_I mi_D_truncateText 6 90 G M sX_i (j15) 15 [none, none] [] M) ?_ (fun j15 hj15 => ?_)
  · show im_I mi_D_truncateText 6 90 G M sX_i (_) 15 [none, none] [] M
    exact im_endX rfl (wp_throw (i := 7) th_D_105_107_109 rfl rfl rfl rfl rfl rfl rfl rfl rfl rfl)
  refine im_if_lt 1 1 15 rfl (by decide) ?_ ?_
  · exact im_less _ (by simp [lv_le]) (hj15)
  · refine im_iload_n 2 4 rfl rfl ?_
    refine im_aload_n 3 5 rfl rfl ?_
    refine im_getR 4 6 rfl fd_D_19 (by decide +kernel) (fun x1 => ?_)
    refine im_ci (S := [.int a1]) (fun _ hv => cpV (fr' := 1) (lo' := 20) (i := 5) (As := []) (S := [.int a1]) (a := x1) (c := 6) rfl lk_D_90 mw_S_textLength mv_S_textLength rfl ⟨by decide, rfl⟩ rfl rfl rfl (gd_some hv).1 (sp_S_textLength G hv)) (fun x2 => ?_)
    refine im_ic_le 6 12 25 rfl (by decide) ?_ ?_
    · refine im_aload_n 12 25 rfl rfl ?_
      refine im_getR 13 26 rfl fd_D_19 (by decide +kernel) (fun x3 => ?_)
      refine im_iload_n 14 29 rfl rfl ?_
      refine im_cWv (S := []) (fun _ hv => cpV (fr' := 1) (lo' := 20) (i := 15) (As := [.int a1]) (S := []) (a := x3) (c := 6) rfl lk_D_110 mw_S_cutBuffer mv_S_cutBuffer rfl ⟨by decide, rfl⟩ rfl rfl rfl (gd_some hv).1 (sp_S_cutBuffer G hv)) (fun M1 => ?_)
      refine im_iload_n 16 33 rfl rfl ?_
      exact im_end rfl (wp_ireturn 17 34 rfl rfl)
    · exact im_less _ (by simp [lv_le]) (hj15)

theorem sp_D_truncateText (G : gl_T) {t : Nat} {a1 : Int32} {M : mm_T} {y : (Int32 ⊕ String) × mm_T} (h : ff_D_truncateText t a1 M = some y) : sp_S mi_D_truncateText 6 90 G [.ref t, .int a1] M (sX_i y).1 (sX_i y).2 := sp_of mo_D_truncateText mw_D_truncateText (Or.inl (by decide +kernel)) rfl rfl (Or.inl rfl) (ip_D_truncateText G t a1 M y h)

set_option maxRecDepth 100000 in
set_option maxHeartbeats 4000000 in
theorem li_D_copy_2 (G : gl_T) (M0 : mm_T) (p0 : Nat) (p1 : Nat) : ∀ (fu : Nat) (q2 : Int32) (N : mm_T), im_I mi_D_copy 1 20 G M0 sw_v (lf_D_copy_2 p0 p1 fu q2 N) 2 [some (.ref p0), some (.ref p1), some (.int q2)] [] N := by
  intro fu
  induction fu with
  | zero => intro _ _; exact im_none
  | succ fu ih =>
    intro q2 N
    show im_I mi_D_copy 1 20 G M0 sw_v (lb_D_copy_2 p0 p1 (lf_D_copy_2 p0 p1 fu) q2 N) 2 [some (.ref p0), some (.ref p1), some (.int q2)] [] N
    unfold lb_D_copy_2
    refine im_iload_n 2 2 rfl rfl ?_
    refine im_aload_n 3 3 rfl rfl ?_
    refine im_arraylength 4 4 rfl (fun x1 => ?_)
    refine im_ic_ge 5 5 26 rfl (by decide) ?_ ?_
    · exact im_end rfl (wp_return 18 26 rfl rfl)
    · refine im_iload_n 6 8 rfl rfl ?_
      refine im_aload_n 7 9 rfl rfl ?_
      refine im_arraylength 8 10 rfl (fun x2 => ?_)
      refine im_ic_ge 9 11 26 rfl (by decide) ?_ ?_
      · exact im_end rfl (wp_return 18 26 rfl rfl)
      · refine im_aload_n 10 14 rfl rfl ?_
        refine im_iload_n 11 15 rfl rfl ?_
        refine im_aload_n 12 16 rfl rfl ?_
        refine im_iload_n 13 17 rfl rfl ?_
        refine im_iaload 14 18 rfl (fun x3 => ?_)
        refine im_iastore 15 19 rfl (fun M1 => ?_)
        refine im_iincL 16 20 (fun x4 => [some (.ref p0), some (.ref p1), some (.int x4)]) rfl rfl rfl rfl (fun _ => rfl) (fun x4 => ?_)
        refine im_goto 17 23 2 rfl (by decide) ?_
        exact im_less _ (by simp [lv_le]) (ih x4 M1)

set_option maxRecDepth 100000 in
set_option maxHeartbeats 4000000 in
theorem ip_D_copy (G : gl_T) (a1 : Nat) (a2 : Nat) (M : mm_T) : im_I mi_D_copy 1 20 G M sw_v (ff_D_copy a1 a2 M) 0 [some (.ref a1), some (.ref a2), none] [] M := by
  unfold ff_D_copy
  refine im_iconst 0 0 rfl rfl ?_
  refine im_istore_n 1 1 [some (.ref a1), some (.ref a2), some (.int (0 : Int32))] rfl rfl rfl ?_
  refine im_less [some (.ref a1), some (.ref a2), some (.int (0 : Int32))] (by simp [lv_le]) ?_
  exact li_D_copy_2 G M a1 a2 fu_L (0 : Int32) M

theorem sp_D_copy (G : gl_T) {a1 : Nat} {a2 : Nat} {M : mm_T} {y : mm_T} (h : ff_D_copy a1 a2 M = some y) : sp_S mi_D_copy 1 20 G [.ref a1, .ref a2] M (sw_v y).1 (sw_v y).2 := sp_of mo_D_copy mw_D_copy (Or.inl (by decide +kernel)) rfl rfl (Or.inl rfl) (ip_D_copy G a1 a2 M y h)

set_option maxRecDepth 100000 in
set_option maxHeartbeats 4000000 in
theorem ip_P_copyFrom (G : gl_T) (t : Nat) (a1 : Nat) (M : mm_T) : im_I mi_P_copyFrom 2 42 G M sw_v (ff_P_copyFrom t a1 M) 0 [some (.ref t), some (.ref a1)] [] M := by
  unfold ff_P_copyFrom
  refine im_gd (fun hg => ?_)
  refine im_aload_n 0 0 rfl rfl ?_
  refine im_aload_n 1 1 rfl rfl ?_
  refine im_getI 2 2 rfl fd_P_30 (by decide +kernel) (fun x1 => ?_)
  refine im_putI 3 5 rfl fd_P_30 (Or.inl (by decide +kernel)) (by decide +kernel) (fun M1 => ?_)
  refine im_aload_n 4 8 rfl rfl ?_
  refine im_aload_n 5 9 rfl rfl ?_
  refine im_getI 6 10 rfl fd_P_34 (by decide +kernel) (fun x2 => ?_)
  refine im_putI 7 13 rfl fd_P_34 (Or.inl (by decide +kernel)) (by decide +kernel) (fun M2 => ?_)
  refine im_aload_n 8 16 rfl rfl ?_
  refine im_getR 9 17 rfl fd_P_9 (by decide +kernel) (fun x3 => ?_)
  refine im_aload_n 10 20 rfl rfl ?_
  refine im_getR 11 21 rfl fd_P_9 (by decide +kernel) (fun x4 => ?_)
  refine im_cWv (S := []) (fun _ hv => cpS (fr' := 1) (lo' := 20) (i := 12) (As := [.ref x3, .ref x4]) (S := []) rfl lk_P_37 mw_D_copy mv_D_copy rfl rfl rfl rfl (sp_D_copy G hv)) (fun M3 => ?_)
  refine im_aload_n 13 27 rfl rfl ?_
  refine im_getR 14 28 rfl fd_P_15 (by decide +kernel) (fun x5 => ?_)
  refine im_aload_n 15 31 rfl rfl ?_
  refine im_getR 16 32 rfl fd_P_15 (by decide +kernel) (fun x6 => ?_)
  refine im_cWv (S := []) (fun _ hv => cpS (fr' := 1) (lo' := 20) (i := 17) (As := [.ref x5, .ref x6]) (S := []) rfl lk_P_37 mw_D_copy mv_D_copy rfl rfl rfl rfl (sp_D_copy G hv)) (fun M4 => ?_)
  refine im_aload_n 18 38 rfl rfl ?_
  refine im_getR 19 39 rfl fd_P_18 (by decide +kernel) (fun x7 => ?_)
  refine im_aload_n 20 42 rfl rfl ?_
  refine im_getR 21 43 rfl fd_P_18 (by decide +kernel) (fun x8 => ?_)
  refine im_cWv (S := []) (fun _ hv => cpS (fr' := 1) (lo' := 20) (i := 22) (As := [.ref x7, .ref x8]) (S := []) rfl lk_P_37 mw_D_copy mv_D_copy rfl rfl rfl rfl (sp_D_copy G hv)) (fun M5 => ?_)
  refine im_aload_n 23 49 rfl rfl ?_
  refine im_getR 24 50 rfl fd_P_21 (by decide +kernel) (fun x9 => ?_)
  refine im_aload_n 25 53 rfl rfl ?_
  refine im_getR 26 54 rfl fd_P_21 (by decide +kernel) (fun x10 => ?_)
  refine im_cWv (S := []) (fun _ hv => cpS (fr' := 1) (lo' := 20) (i := 27) (As := [.ref x9, .ref x10]) (S := []) rfl lk_P_37 mw_D_copy mv_D_copy rfl rfl rfl rfl (sp_D_copy G hv)) (fun M6 => ?_)
  refine im_aload_n 28 60 rfl rfl ?_
  refine im_getR 29 61 rfl fd_P_24 (by decide +kernel) (fun x11 => ?_)
  refine im_aload_n 30 64 rfl rfl ?_
  refine im_getR 31 65 rfl fd_P_24 (by decide +kernel) (fun x12 => ?_)
  refine im_cWv (S := []) (fun _ hv => cpS (fr' := 1) (lo' := 20) (i := 32) (As := [.ref x11, .ref x12]) (S := []) rfl lk_P_37 mw_D_copy mv_D_copy rfl rfl rfl rfl (sp_D_copy G hv)) (fun M7 => ?_)
  refine im_aload_n 33 71 rfl rfl ?_
  refine im_getR 34 72 rfl fd_P_27 (by decide +kernel) (fun x13 => ?_)
  refine im_aload_n 35 75 rfl rfl ?_
  refine im_getR 36 76 rfl fd_P_27 (by decide +kernel) (fun x14 => ?_)
  refine im_cWv (S := []) (fun _ hv => cpS (fr' := 1) (lo' := 20) (i := 37) (As := [.ref x13, .ref x14]) (S := []) rfl lk_P_37 mw_D_copy mv_D_copy rfl rfl rfl rfl (sp_D_copy G hv)) (fun M8 => ?_)
  exact im_end rfl (wp_return 38 82 rfl rfl)

theorem sp_P_copyFrom (G : gl_T) {t : Nat} {a1 : Nat} {M : mm_T} {y : mm_T} (h : ff_P_copyFrom t a1 M = some y) : sp_S mi_P_copyFrom 2 42 G [.ref t, .ref a1] M (sw_v y).1 (sw_v y).2 := sp_of mo_P_copyFrom mw_P_copyFrom (Or.inl (by decide +kernel)) rfl rfl (Or.inl rfl) (ip_P_copyFrom G t a1 M y h)

set_option maxRecDepth 100000 in
set_option maxHeartbeats 4000000 in
theorem ip_H_clear (G : gl_T) (t : Nat) (M : mm_T) : im_I mi_H_clear 1 20 G M sw_v (ff_H_clear t M) 0 [some (.ref t)] [] M := by
  unfold ff_H_clear
  refine im_gd (fun hg => ?_)
  refine im_aload_n 0 0 rfl rfl ?_
  refine im_iconst 1 1 rfl rfl ?_
  refine im_putI 2 2 rfl fd_H_17 (Or.inl (by decide +kernel)) (by decide +kernel) (fun M1 => ?_)
  exact im_end rfl (wp_return 3 5 rfl rfl)

theorem sp_H_clear (G : gl_T) {t : Nat} {M : mm_T} {y : mm_T} (h : ff_H_clear t M = some y) : sp_S mi_H_clear 1 20 G [.ref t] M (sw_v y).1 (sw_v y).2 := sp_of mo_H_clear mw_H_clear (Or.inl (by decide +kernel)) rfl rfl (Or.inl rfl) (ip_H_clear G t M y h)

set_option maxRecDepth 100000 in
set_option maxHeartbeats 4000000 in
theorem ip_D_forgetAnalyses (G : gl_T) (t : Nat) (M : mm_T) : im_I mi_D_forgetAnalyses 1 20 G M sw_v (ff_D_forgetAnalyses t M) 0 [some (.ref t)] [] M := by
  unfold ff_D_forgetAnalyses
  refine im_gd (fun hg => ?_)
  refine im_aload_n 0 0 rfl rfl ?_
  refine im_getR 1 1 rfl fd_D_44 (by decide +kernel) (fun x1 => ?_)
  refine im_iconst 2 4 rfl rfl ?_
  refine im_putZ 3 5 rfl fd_D_471 (Or.inl (by decide +kernel)) (by decide +kernel) (fun M1 => ?_)
  refine im_aload_n 4 8 rfl rfl ?_
  refine im_getR 5 9 rfl fd_D_51 (by decide +kernel) (fun x2 => ?_)
  refine im_iconst 6 12 rfl rfl ?_
  refine im_putZ 7 13 rfl fd_D_474 (Or.inl (by decide +kernel)) (by decide +kernel) (fun M2 => ?_)
  refine im_aload_n 8 16 rfl rfl ?_
  refine im_getR 9 17 rfl fd_D_58 (by decide +kernel) (fun x3 => ?_)
  refine im_iconst 10 20 rfl rfl ?_
  refine im_putZ 11 21 rfl fd_D_475 (Or.inl (by decide +kernel)) (by decide +kernel) (fun M3 => ?_)
  refine im_aload_n 12 24 rfl rfl ?_
  refine im_getR 13 25 rfl fd_D_65 (by decide +kernel) (fun x4 => ?_)
  refine im_iconst 14 28 rfl rfl ?_
  refine im_putZ 15 29 rfl fd_D_476 (Or.inl (by decide +kernel)) (by decide +kernel) (fun M4 => ?_)
  refine im_aload_n 16 32 rfl rfl ?_
  refine im_getR 17 33 rfl fd_D_72 (by decide +kernel) (fun x5 => ?_)
  refine im_iconst 18 36 rfl rfl ?_
  refine im_putZ 19 37 rfl fd_D_477 (Or.inl (by decide +kernel)) (by decide +kernel) (fun M5 => ?_)
  exact im_end rfl (wp_return 20 40 rfl rfl)

theorem sp_D_forgetAnalyses (G : gl_T) {t : Nat} {M : mm_T} {y : mm_T} (h : ff_D_forgetAnalyses t M = some y) : sp_S mi_D_forgetAnalyses 1 20 G [.ref t] M (sw_v y).1 (sw_v y).2 := sp_of mo_D_forgetAnalyses mw_D_forgetAnalyses (Or.inl (by decide +kernel)) rfl rfl (Or.inl rfl) (ip_D_forgetAnalyses G t M y h)

set_option maxRecDepth 100000 in
set_option maxHeartbeats 4000000 in
theorem ip_D_replaceProgram (G : gl_T) (t : Nat) (a1 : Nat) (M : mm_T) : im_I mi_D_replaceProgram 3 63 G M sw_v (ff_D_replaceProgram t a1 M) 0 [some (.ref t), some (.ref a1)] [] M := by
  unfold ff_D_replaceProgram
  refine im_gd (fun hg => ?_)
  refine im_aload_n 0 0 rfl rfl ?_
  refine im_getR 1 1 rfl fd_D_87 (by decide +kernel) (fun x1 => ?_)
  refine im_aload_n 2 4 rfl rfl ?_
  refine im_cWv (S := []) (fun _ hv => cpV (fr' := 2) (lo' := 42) (i := 3) (As := [.ref a1]) (S := []) (a := x1) (c := 7) rfl lk_D_431 mw_P_copyFrom mv_P_copyFrom rfl ⟨by decide, rfl⟩ rfl rfl rfl (gd_some hv).1 (sp_P_copyFrom G hv)) (fun M1 => ?_)
  refine im_aload_n 4 8 rfl rfl ?_
  refine im_getR 5 9 rfl fd_D_33 (by decide +kernel) (fun x2 => ?_)
  refine im_cWv (S := []) (fun _ hv => cpV (fr' := 1) (lo' := 20) (i := 6) (As := []) (S := []) (a := x2) (c := 3) rfl lk_D_470 mw_H_clear mv_H_clear rfl ⟨by decide, rfl⟩ rfl rfl rfl (gd_some hv).1 (sp_H_clear G hv)) (fun M2 => ?_)
  refine im_aload_n 7 15 rfl rfl ?_
  refine im_cWv (S := []) (fun _ hv => cpV (fr' := 1) (lo' := 20) (i := 8) (As := []) (S := []) (a := t) (c := 10) rfl lk_D_374 mw_D_forgetAnalyses mv_D_forgetAnalyses rfl ⟨by decide, rfl⟩ rfl rfl rfl (gd_some hv).1 (sp_D_forgetAnalyses G hv)) (fun M3 => ?_)
  exact im_end rfl (wp_return 9 19 rfl rfl)

theorem sp_D_replaceProgram (G : gl_T) {t : Nat} {a1 : Nat} {M : mm_T} {y : mm_T} (h : ff_D_replaceProgram t a1 M = some y) : sp_S mi_D_replaceProgram 3 63 G [.ref t, .ref a1] M (sw_v y).1 (sw_v y).2 := sp_of mo_D_replaceProgram mw_D_replaceProgram (Or.inl (by decide +kernel)) rfl rfl (Or.inl rfl) (ip_D_replaceProgram G t a1 M y h)

set_option maxRecDepth 100000 in
set_option maxHeartbeats 4000000 in
theorem ip_D_loadProgram (G : gl_T) (t : Nat) (M : mm_T) : im_I mi_D_loadProgram 9 264 G M sw_i (ff_D_loadProgram t M) 0 [some (.ref t), none] [] M := by
  unfold ff_D_loadProgram
  refine im_gd (fun hg => ?_)
  refine im_aload_n 0 0 rfl rfl ?_
  refine im_getR 1 1 rfl fd_D_19 (by decide +kernel) (fun x1 => ?_)
  refine im_aload_n 2 4 rfl rfl ?_
  refine im_getR 3 5 rfl fd_D_10 (by decide +kernel) (fun x2 => ?_)
  refine im_cWi (S := []) (fun _ _ hv => cpV (fr' := 8) (lo' := 241) (i := 4) (As := [.ref x2]) (S := []) (a := x1) (c := 6) rfl lk_D_113 mw_S_parse mv_S_parse rfl ⟨by decide, rfl⟩ rfl rfl rfl (gd_some hv).1 (sp_S_parse G hv)) (fun x3 M1 => ?_)
  refine im_istore_n 5 11 [some (.ref t), some (.int x3)] rfl rfl rfl ?_
  refine im_aload_n 6 12 rfl rfl ?_
  refine im_getR 7 13 rfl fd_D_19 (by decide +kernel) (fun x4 => ?_)
  refine im_cWv (S := []) (fun _ hv => cpV (fr' := 1) (lo' := 20) (i := 8) (As := []) (S := []) (a := x4) (c := 6) rfl lk_D_117 mw_S_clearBuffer mv_S_clearBuffer rfl ⟨by decide, rfl⟩ rfl rfl rfl (gd_some hv).1 (sp_S_clearBuffer G hv)) (fun M2 => ?_)
  refine im_iload_n 9 19 rfl rfl ?_
  refine im_if_ne 10 20 25 rfl (by decide) ?_ ?_
  · refine im_aload_n 13 25 rfl rfl ?_
    refine im_aload_n 14 26 rfl rfl ?_
    refine im_getR 15 27 rfl fd_D_10 (by decide +kernel) (fun x5 => ?_)
    refine im_cWv (S := []) (fun _ hv => cpV (fr' := 3) (lo' := 63) (i := 16) (As := [.ref x5]) (S := []) (a := t) (c := 10) rfl lk_D_120 mw_D_replaceProgram mv_D_replaceProgram rfl ⟨by decide, rfl⟩ rfl rfl rfl (gd_some hv).1 (sp_D_replaceProgram G hv)) (fun M3 => ?_)
    refine im_aload_n 17 33 rfl rfl ?_
    refine im_getR 18 34 rfl fd_D_87 (by decide +kernel) (fun x6 => ?_)
    refine im_getI 19 37 rfl fd_D_124 (by decide +kernel) (fun x7 => ?_)
    exact im_end rfl (wp_ireturn 20 40 rfl rfl)
  · refine im_iconst 11 23 rfl rfl ?_
    exact im_end rfl (wp_ireturn 12 24 rfl rfl)

theorem sp_D_loadProgram (G : gl_T) {t : Nat} {M : mm_T} {y : Int32 × mm_T} (h : ff_D_loadProgram t M = some y) : sp_S mi_D_loadProgram 9 264 G [.ref t] M (sw_i y).1 (sw_i y).2 := sp_of mo_D_loadProgram mw_D_loadProgram (Or.inl (by decide +kernel)) rfl rfl (Or.inl rfl) (ip_D_loadProgram G t M y h)

set_option maxRecDepth 100000 in
set_option maxHeartbeats 4000000 in
theorem ip_D_errorCode (G : gl_T) (t : Nat) (M : mm_T) : im_I mi_D_errorCode 1 20 G M (sh_i M) (ff_D_errorCode t M) 0 [some (.ref t)] [] M := by
  unfold ff_D_errorCode
  refine im_gd (fun hg => ?_)
  refine im_aload_n 0 0 rfl rfl ?_
  refine im_getR 1 1 rfl fd_D_19 (by decide +kernel) (fun x1 => ?_)
  refine im_getI 2 4 rfl fd_D_128 (by decide +kernel) (fun x2 => ?_)
  exact im_end rfl (wp_ireturn 3 7 rfl rfl)

theorem sp_D_errorCode (G : gl_T) {t : Nat} {M : mm_T} {y : Int32} (h : ff_D_errorCode t M = some y) : sp_S mi_D_errorCode 1 20 G [.ref t] M ((sh_i M) y).1 ((sh_i M) y).2 := sp_of mo_D_errorCode mw_D_errorCode (Or.inl (by decide +kernel)) rfl rfl (Or.inl rfl) (ip_D_errorCode G t M y h)

set_option maxRecDepth 100000 in
set_option maxHeartbeats 4000000 in
theorem ip_D_errorPosition (G : gl_T) (t : Nat) (M : mm_T) : im_I mi_D_errorPosition 1 20 G M (sh_i M) (ff_D_errorPosition t M) 0 [some (.ref t)] [] M := by
  unfold ff_D_errorPosition
  refine im_gd (fun hg => ?_)
  refine im_aload_n 0 0 rfl rfl ?_
  refine im_getR 1 1 rfl fd_D_19 (by decide +kernel) (fun x1 => ?_)
  refine im_getI 2 4 rfl fd_D_131 (by decide +kernel) (fun x2 => ?_)
  exact im_end rfl (wp_ireturn 3 7 rfl rfl)

theorem sp_D_errorPosition (G : gl_T) {t : Nat} {M : mm_T} {y : Int32} (h : ff_D_errorPosition t M = some y) : sp_S mi_D_errorPosition 1 20 G [.ref t] M ((sh_i M) y).1 ((sh_i M) y).2 := sp_of mo_D_errorPosition mw_D_errorPosition (Or.inl (by decide +kernel)) rfl rfl (Or.inl rfl) (ip_D_errorPosition G t M y h)

set_option maxRecDepth 100000 in
set_option maxHeartbeats 4000000 in
theorem ip_D_blockCount (G : gl_T) (t : Nat) (M : mm_T) : im_I mi_D_blockCount 1 20 G M (sh_i M) (ff_D_blockCount t M) 0 [some (.ref t)] [] M := by
  unfold ff_D_blockCount
  refine im_gd (fun hg => ?_)
  refine im_aload_n 0 0 rfl rfl ?_
  refine im_getR 1 1 rfl fd_D_87 (by decide +kernel) (fun x1 => ?_)
  refine im_getI 2 4 rfl fd_D_124 (by decide +kernel) (fun x2 => ?_)
  exact im_end rfl (wp_ireturn 3 7 rfl rfl)

theorem sp_D_blockCount (G : gl_T) {t : Nat} {M : mm_T} {y : Int32} (h : ff_D_blockCount t M = some y) : sp_S mi_D_blockCount 1 20 G [.ref t] M ((sh_i M) y).1 ((sh_i M) y).2 := sp_of mo_D_blockCount mw_D_blockCount (Or.inl (by decide +kernel)) rfl rfl (Or.inl rfl) (ip_D_blockCount G t M y h)

set_option maxRecDepth 100000 in
set_option maxHeartbeats 4000000 in
theorem ip_D_instructionCount (G : gl_T) (t : Nat) (M : mm_T) : im_I mi_D_instructionCount 1 20 G M (sh_i M) (ff_D_instructionCount t M) 0 [some (.ref t)] [] M := by
  unfold ff_D_instructionCount
  refine im_gd (fun hg => ?_)
  refine im_aload_n 0 0 rfl rfl ?_
  refine im_getR 1 1 rfl fd_D_87 (by decide +kernel) (fun x1 => ?_)
  refine im_getI 2 4 rfl fd_D_134 (by decide +kernel) (fun x2 => ?_)
  exact im_end rfl (wp_ireturn 3 7 rfl rfl)

theorem sp_D_instructionCount (G : gl_T) {t : Nat} {M : mm_T} {y : Int32} (h : ff_D_instructionCount t M = some y) : sp_S mi_D_instructionCount 1 20 G [.ref t] M ((sh_i M) y).1 ((sh_i M) y).2 := sp_of mo_D_instructionCount mw_D_instructionCount (Or.inl (by decide +kernel)) rfl rfl (Or.inl rfl) (ip_D_instructionCount G t M y h)

set_option maxRecDepth 100000 in
set_option maxHeartbeats 4000000 in
theorem ip_D_requireBlock (G : gl_T) (t : Nat) (a1 : Int32) (M : mm_T) : im_I mi_D_requireBlock 6 90 G M (sx_v M) (ff_D_requireBlock t a1 M) 0 [some (.ref t), some (.int a1)] [] M := by
  unfold ff_D_requireBlock
  refine im_gd (fun hg => ?_)
  refine im_iload_n 0 0 rfl rfl ?_
  refine im_jp (fun j15 => im_I mi_D_requireBlock 6 90 G M (sx_v M) (j15) 15 [none, none] [] M) ?_ (fun j15 hj15 => ?_)
  · show im_I mi_D_requireBlock 6 90 G M (sx_v M) (_) 15 [none, none] [] M
    exact im_endX rfl (wp_throwW (i := 7) th_D_436_438_440 rfl rfl rfl rfl rfl rfl rfl rfl rfl rfl)
  refine im_if_lt 1 1 15 rfl (by decide) ?_ ?_
  · exact im_less _ (by simp [lv_le]) (hj15)
  · refine im_iload_n 2 4 rfl rfl ?_
    refine im_aload_n 3 5 rfl rfl ?_
    refine im_getR 4 6 rfl fd_D_87 (by decide +kernel) (fun x1 => ?_)
    refine im_getI 5 9 rfl fd_D_124 (by decide +kernel) (fun x2 => ?_)
    refine im_ic_lt 6 12 26 rfl (by decide) ?_ ?_
    · exact im_end rfl (wp_return 12 26 rfl rfl)
    · exact im_less _ (by simp [lv_le]) (hj15)

theorem sp_D_requireBlock (G : gl_T) {t : Nat} {a1 : Int32} {M : mm_T} {y : Option String} (h : ff_D_requireBlock t a1 M = some y) : sp_S mi_D_requireBlock 6 90 G [.ref t, .int a1] M ((sx_v M) y).1 ((sx_v M) y).2 := sp_of mo_D_requireBlock mw_D_requireBlock (Or.inl (by decide +kernel)) rfl rfl (Or.inl rfl) (ip_D_requireBlock G t a1 M y h)

set_option maxRecDepth 100000 in
set_option maxHeartbeats 4000000 in
theorem ip_P_sizeOf (G : gl_T) (t : Nat) (a1 : Int32) (M : mm_T) : im_I mi_P_sizeOf 2 41 G M (sh_i M) (ff_P_sizeOf t a1 M) 0 [some (.ref t), some (.int a1)] [] M := by
  unfold ff_P_sizeOf
  refine im_gd (fun hg => ?_)
  refine im_aload_n 0 0 rfl rfl ?_
  refine im_getR 1 1 rfl fd_P_15 (by decide +kernel) (fun x1 => ?_)
  refine im_iload_n 2 4 rfl rfl ?_
  refine im_iconst 3 5 rfl rfl ?_
  refine im_iadd 4 6 rfl ?_
  refine im_ci (S := []) (fun _ hv => cpS (fr' := 1) (lo' := 20) (i := 5) (As := [.ref x1, .int (a1 + (1 : Int32))]) (S := []) rfl lk_P_41 mw_D_at_a mv_D_at_a rfl rfl rfl rfl (sp_D_at_a G hv)) (fun x2 => ?_)
  refine im_aload_n 6 10 rfl rfl ?_
  refine im_getR 7 11 rfl fd_P_15 (by decide +kernel) (fun x3 => ?_)
  refine im_iload_n 8 14 rfl rfl ?_
  refine im_ci (S := [.int x2]) (fun _ hv => cpS (fr' := 1) (lo' := 20) (i := 9) (As := [.ref x3, .int a1]) (S := [.int x2]) rfl lk_P_41 mw_D_at_a mv_D_at_a rfl rfl rfl rfl (sp_D_at_a G hv)) (fun x4 => ?_)
  refine im_isub 10 18 rfl ?_
  exact im_end rfl (wp_ireturn 11 19 rfl rfl)

theorem sp_P_sizeOf (G : gl_T) {t : Nat} {a1 : Int32} {M : mm_T} {y : Int32} (h : ff_P_sizeOf t a1 M = some y) : sp_S mi_P_sizeOf 2 41 G [.ref t, .int a1] M ((sh_i M) y).1 ((sh_i M) y).2 := sp_of mo_P_sizeOf mw_P_sizeOf (Or.inl (by decide +kernel)) rfl rfl (Or.inl rfl) (ip_P_sizeOf G t a1 M y h)

set_option maxRecDepth 100000 in
set_option maxHeartbeats 4000000 in
theorem ip_D_instructionsIn (G : gl_T) (t : Nat) (a1 : Int32) (M : mm_T) : im_I mi_D_instructionsIn 7 111 G M sX_i (ff_D_instructionsIn t a1 M) 0 [some (.ref t), some (.int a1)] [] M := by
  unfold ff_D_instructionsIn
  refine im_gd (fun hg => ?_)
  refine im_aload_n 0 0 rfl rfl ?_
  refine im_iload_n 1 1 rfl rfl ?_
  refine im_rq (S := []) (fun hv => cpV (fr' := 6) (lo' := 90) (i := 2) (As := [.int a1]) (S := []) (a := t) (c := 10) rfl lk_D_137 mw_D_requireBlock mv_D_requireBlock rfl ⟨by decide, rfl⟩ rfl rfl rfl (gd_some hv).1 (sp_D_requireBlock G hv)) (fun _ hv => xpV (fr' := 6) (lo' := 90) (i := 2) (As := [.int a1]) (S := []) (a := t) (c := 10) rfl lm_D_137 mw_D_requireBlock mv_D_requireBlock rfl ⟨by decide, rfl⟩ rfl rfl rfl (gd_some hv).1 (sp_D_requireBlock G hv) (tw_out rfl)) (fun _ => rfl) ?_
  refine im_aload_n 3 5 rfl rfl ?_
  refine im_getR 4 6 rfl fd_D_87 (by decide +kernel) (fun x1 => ?_)
  refine im_iload_n 5 9 rfl rfl ?_
  refine im_ci (S := []) (fun _ hv => cpV (fr' := 2) (lo' := 41) (i := 6) (As := [.int a1]) (S := []) (a := x1) (c := 7) rfl lk_D_140 mw_P_sizeOf mv_P_sizeOf rfl ⟨by decide, rfl⟩ rfl rfl rfl (gd_some hv).1 (sp_P_sizeOf G hv)) (fun x2 => ?_)
  exact im_end rfl (wp_ireturn 7 13 rfl rfl)

theorem sp_D_instructionsIn (G : gl_T) {t : Nat} {a1 : Int32} {M : mm_T} {y : (Int32 ⊕ String) × mm_T} (h : ff_D_instructionsIn t a1 M = some y) : sp_S mi_D_instructionsIn 7 111 G [.ref t, .int a1] M (sX_i y).1 (sX_i y).2 := sp_of mo_D_instructionsIn mw_D_instructionsIn (Or.inl (by decide +kernel)) rfl rfl (Or.inl rfl) (ip_D_instructionsIn G t a1 M y h)

set_option maxRecDepth 100000 in
set_option maxHeartbeats 4000000 in
theorem ip_D_requireInstruction (G : gl_T) (t : Nat) (a1 : Int32) (M : mm_T) : im_I mi_D_requireInstruction 6 90 G M (sx_v M) (ff_D_requireInstruction t a1 M) 0 [some (.ref t), some (.int a1)] [] M := by
  unfold ff_D_requireInstruction
  refine im_gd (fun hg => ?_)
  refine im_iload_n 0 0 rfl rfl ?_
  refine im_jp (fun j15 => im_I mi_D_requireInstruction 6 90 G M (sx_v M) (j15) 15 [none, none] [] M) ?_ (fun j15 hj15 => ?_)
  · show im_I mi_D_requireInstruction 6 90 G M (sx_v M) (_) 15 [none, none] [] M
    exact im_endX rfl (wp_throwW (i := 7) th_D_436_441_440 rfl rfl rfl rfl rfl rfl rfl rfl rfl rfl)
  refine im_if_lt 1 1 15 rfl (by decide) ?_ ?_
  · exact im_less _ (by simp [lv_le]) (hj15)
  · refine im_iload_n 2 4 rfl rfl ?_
    refine im_aload_n 3 5 rfl rfl ?_
    refine im_getR 4 6 rfl fd_D_87 (by decide +kernel) (fun x1 => ?_)
    refine im_getI 5 9 rfl fd_D_134 (by decide +kernel) (fun x2 => ?_)
    refine im_ic_lt 6 12 26 rfl (by decide) ?_ ?_
    · exact im_end rfl (wp_return 12 26 rfl rfl)
    · exact im_less _ (by simp [lv_le]) (hj15)

theorem sp_D_requireInstruction (G : gl_T) {t : Nat} {a1 : Int32} {M : mm_T} {y : Option String} (h : ff_D_requireInstruction t a1 M = some y) : sp_S mi_D_requireInstruction 6 90 G [.ref t, .int a1] M ((sx_v M) y).1 ((sx_v M) y).2 := sp_of mo_D_requireInstruction mw_D_requireInstruction (Or.inl (by decide +kernel)) rfl rfl (Or.inl rfl) (ip_D_requireInstruction G t a1 M y h)

set_option maxRecDepth 100000 in
set_option maxHeartbeats 4000000 in
theorem li_P_blockAt_13 (G : gl_T) (p0 : Nat) (p1 : Int32) (M : mm_T) : ∀ (fu : Nat) (q2 : Int32), im_I mi_P_blockAt 2 41 G M (sh_i M) (lf_P_blockAt_13 p0 p1 M fu q2) 13 [some (.ref p0), some (.int p1), some (.int q2)] [] M := by
  intro fu
  induction fu with
  | zero => intro _; exact im_none
  | succ fu ih =>
    intro q2
    show im_I mi_P_blockAt 2 41 G M (sh_i M) (lb_P_blockAt_13 p0 p1 M (lf_P_blockAt_13 p0 p1 M fu) q2) 13 [some (.ref p0), some (.int p1), some (.int q2)] [] M
    unfold lb_P_blockAt_13
    refine im_iload_n 9 13 rfl rfl ?_
    refine im_aload_n 10 14 rfl rfl ?_
    refine im_getI 11 15 rfl fd_P_30 (by decide +kernel) (fun x1 => ?_)
    refine im_ic_ge 12 18 41 rfl (by decide) ?_ ?_
    · refine im_iload_n 23 41 rfl rfl ?_
      exact im_end rfl (wp_ireturn 24 42 rfl rfl)
    · refine im_aload_n 13 21 rfl rfl ?_
      refine im_getR 14 22 rfl fd_P_15 (by decide +kernel) (fun x2 => ?_)
      refine im_iload_n 15 25 rfl rfl ?_
      refine im_iconst 16 26 rfl rfl ?_
      refine im_iadd 17 27 rfl ?_
      refine im_ci (S := []) (fun _ hv => cpS (fr' := 1) (lo' := 20) (i := 18) (As := [.ref x2, .int (q2 + (1 : Int32))]) (S := []) rfl lk_P_41 mw_D_at_a mv_D_at_a rfl rfl rfl rfl (sp_D_at_a G hv)) (fun x3 => ?_)
      refine im_iload_n 19 31 rfl rfl ?_
      refine im_ic_gt 20 32 41 rfl (by decide) ?_ ?_
      · refine im_iload_n 23 41 rfl rfl ?_
        exact im_end rfl (wp_ireturn 24 42 rfl rfl)
      · refine im_iincL 21 35 (fun x4 => [some (.ref p0), some (.int p1), some (.int x4)]) rfl rfl rfl rfl (fun _ => rfl) (fun x4 => ?_)
        refine im_goto 22 38 13 rfl (by decide) ?_
        exact im_less _ (by simp [lv_le]) (ih x4)

set_option maxRecDepth 100000 in
set_option maxHeartbeats 4000000 in
theorem ip_P_blockAt (G : gl_T) (t : Nat) (a1 : Int32) (M : mm_T) : im_I mi_P_blockAt 2 41 G M (sh_i M) (ff_P_blockAt t a1 M) 0 [some (.ref t), some (.int a1), none] [] M := by
  unfold ff_P_blockAt
  refine im_gd (fun hg => ?_)
  refine im_iload_n 0 0 rfl rfl ?_
  refine im_bipush 1 1 rfl rfl ?_
  refine im_ic_lt 2 3 11 rfl (by decide) ?_ ?_
  · refine im_iconst 7 11 rfl rfl ?_
    refine im_istore_n 8 12 [some (.ref t), some (.int a1), some (.int (0 : Int32))] rfl rfl rfl ?_
    refine im_less [some (.ref t), some (.int a1), some (.int (0 : Int32))] (by simp [lv_le]) ?_
    exact li_P_blockAt_13 G t a1 M fu_L (0 : Int32)
  · refine im_iload_n 3 6 rfl rfl ?_
    refine im_bipush 4 7 rfl rfl ?_
    refine im_isub 5 9 rfl ?_
    exact im_end rfl (wp_ireturn 6 10 rfl rfl)

theorem sp_P_blockAt (G : gl_T) {t : Nat} {a1 : Int32} {M : mm_T} {y : Int32} (h : ff_P_blockAt t a1 M = some y) : sp_S mi_P_blockAt 2 41 G [.ref t, .int a1] M ((sh_i M) y).1 ((sh_i M) y).2 := sp_of mo_P_blockAt mw_P_blockAt (Or.inl (by decide +kernel)) rfl rfl (Or.inl rfl) (ip_P_blockAt G t a1 M y h)

