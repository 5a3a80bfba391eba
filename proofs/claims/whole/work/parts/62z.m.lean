set_option maxRecDepth 100000 in
set_option maxHeartbeats 4000000 in
theorem ip_D_successor (G : gl_T) (t : Nat) (a1 : Int32) (a2 : Int32) (M : mm_T) : im_I mi_D_successor 7 111 G M sX_i (ff_D_successor t a1 a2 M) 0 [some (.ref t), some (.int a1), some (.int a2)] [] M := by
  unfold ff_D_successor
  refine im_gd (fun hg => ?_)
  refine im_aload_n 0 0 rfl rfl ?_
  refine im_iload_n 1 1 rfl rfl ?_
  refine im_rq (S := []) (fun hv => cpV (fr' := 6) (lo' := 90) (i := 2) (As := [.int a1]) (S := []) (a := t) (c := 10) rfl lk_D_137 mw_D_requireBlock mv_D_requireBlock rfl ⟨by decide, rfl⟩ rfl rfl rfl (gd_some hv).1 (sp_D_requireBlock G hv)) (fun _ hv => xpV (fr' := 6) (lo' := 90) (i := 2) (As := [.int a1]) (S := []) (a := t) (c := 10) rfl lm_D_137 mw_D_requireBlock mv_D_requireBlock rfl ⟨by decide, rfl⟩ rfl rfl rfl (gd_some hv).1 (sp_D_requireBlock G hv) (tw_out rfl)) (fun _ => rfl) ?_
  refine im_iload_n 3 5 rfl rfl ?_
  refine im_jp (fun j21 => im_I mi_D_successor 7 111 G M sX_i (j21) 21 [none, none, none] [] M) ?_ (fun j21 hj21 => ?_)
  · show im_I mi_D_successor 7 111 G M sX_i (_) 21 [none, none, none] [] M
    exact im_endX rfl (zx_wp (i := 11) th_D_156_158_160 rfl rfl rfl rfl rfl rfl rfl rfl rfl rfl)
  refine im_if_lt 4 6 21 rfl (by decide) ?_ ?_
  · exact im_less _ (by simp [lv_le]) (hj21)
  · refine im_iload_n 5 9 rfl rfl ?_
    refine im_aload_n 6 10 rfl rfl ?_
    refine im_getR 7 11 rfl fd_D_87 (by decide +kernel) (fun x1 => ?_)
    refine im_iload_n 8 14 rfl rfl ?_
    refine im_ci (S := [.int a2]) (fun _ hv => cpV (fr' := 2) (lo' := 41) (i := 9) (As := [.int a1]) (S := [.int a2]) (a := x1) (c := 7) rfl lk_D_153 mw_P_wayCount mv_P_wayCount rfl ⟨by decide, rfl⟩ rfl rfl rfl (gd_some hv).1 (sp_P_wayCount G hv)) (fun x2 => ?_)
    refine im_ic_lt 10 18 31 rfl (by decide) ?_ ?_
    · refine im_aload_n 16 31 rfl rfl ?_
      refine im_getR 17 32 rfl fd_D_87 (by decide +kernel) (fun x3 => ?_)
      refine im_iload_n 18 35 rfl rfl ?_
      refine im_iload_n 19 36 rfl rfl ?_
      refine im_ci (S := []) (fun _ hv => cpV (fr' := 2) (lo' := 41) (i := 20) (As := [.int a1, .int a2]) (S := []) (a := x3) (c := 7) rfl lk_D_161 mw_P_wayOf mv_P_wayOf rfl ⟨by decide, rfl⟩ rfl rfl rfl (gd_some hv).1 (sp_P_wayOf G hv)) (fun x4 => ?_)
      exact im_end rfl (wp_ireturn 21 40 rfl rfl)
    · exact im_less _ (by simp [lv_le]) (hj21)

theorem sp_D_successor (G : gl_T) {t : Nat} {a1 : Int32} {a2 : Int32} {M : mm_T} {y : (Int32 ⊕ String) × mm_T} (h : ff_D_successor t a1 a2 M = some y) : sp_S mi_D_successor 7 111 G [.ref t, .int a1, .int a2] M (sX_i y).1 (sX_i y).2 := sp_of mo_D_successor mw_D_successor (Or.inl (by decide +kernel)) rfl rfl (Or.inl rfl) (ip_D_successor G t a1 a2 M y h)

set_option maxRecDepth 100000 in
set_option maxHeartbeats 4000000 in
theorem ip_D_onlyDefinition (G : gl_T) (t : Nat) (a1 : Int32) (a2 : Int32) (M : mm_T) : im_I mi_D_onlyDefinition 7 158 G M sX_i (ff_D_onlyDefinition t a1 a2 M) 0 [some (.ref t), some (.int a1), some (.int a2), none] [] M := by
  unfold ff_D_onlyDefinition
  refine im_gd (fun hg => ?_)
  refine im_aload_n 0 0 rfl rfl ?_
  refine im_iload_n 1 1 rfl rfl ?_
  refine im_rq (S := []) (fun hv => cpV (fr' := 6) (lo' := 90) (i := 2) (As := [.int a1]) (S := []) (a := t) (c := 10) rfl lk_D_144 mw_D_requireInstruction mv_D_requireInstruction rfl ⟨by decide, rfl⟩ rfl rfl rfl (gd_some hv).1 (sp_D_requireInstruction G hv)) (fun _ hv => xpV (fr' := 6) (lo' := 90) (i := 2) (As := [.int a1]) (S := []) (a := t) (c := 10) rfl lm_D_144 mw_D_requireInstruction mv_D_requireInstruction rfl ⟨by decide, rfl⟩ rfl rfl rfl (gd_some hv).1 (sp_D_requireInstruction G hv) (tw_out rfl)) (fun _ => rfl) ?_
  refine im_aload_n 3 5 rfl rfl ?_
  refine im_getR 4 6 rfl fd_D_87 (by decide +kernel) (fun x1 => ?_)
  refine im_iload_n 5 9 rfl rfl ?_
  refine im_iload_n 6 10 rfl rfl ?_
  refine im_ci (S := []) (fun _ hv => cpV (fr' := 2) (lo' := 41) (i := 7) (As := [.int a1, .int a2]) (S := []) (a := x1) (c := 7) rfl lk_D_217 mw_P_operandAt mv_P_operandAt rfl ⟨by decide, rfl⟩ rfl rfl rfl (gd_some hv).1 (sp_P_operandAt G hv)) (fun x2 => ?_)
  refine im_istore_n 8 14 [some (.ref t), some (.int a1), some (.int a2), some (.int x2)] rfl rfl rfl ?_
  refine im_iload_n 9 15 rfl rfl ?_
  refine im_iconst 10 16 rfl rfl ?_
  refine im_ic_ne 11 17 30 rfl (by decide) ?_ ?_
  · refine im_aload_n 17 30 rfl rfl ?_
    refine im_cWr (S := []) (fun _ _ hv => cpV (fr' := 6) (lo' := 138) (i := 18) (As := []) (S := []) (a := t) (c := 10) rfl lk_D_184 mw_D_reaching mv_D_reaching rfl ⟨by decide, rfl⟩ rfl rfl rfl (gd_some hv).1 (sp_D_reaching G hv)) (fun x3 M1 => ?_)
    refine im_iload_n 19 34 rfl rfl ?_
    refine im_iload_n 20 35 rfl rfl ?_
    refine im_ci (S := []) (fun _ hv => cpV (fr' := 3) (lo' := 63) (i := 21) (As := [.int a1, .int x2]) (S := []) (a := x3) (c := 8) rfl lk_D_222 mw_R_onlyDefinitionAt mv_R_onlyDefinitionAt rfl ⟨by decide, rfl⟩ rfl rfl rfl (gd_some hv).1 (sp_R_onlyDefinitionAt G hv)) (fun x4 => ?_)
    exact im_end rfl (wp_ireturn 22 39 rfl rfl)
  · exact im_endX rfl (zx_wp (i := 12) th_D_156_220_160 rfl rfl rfl rfl rfl rfl rfl rfl rfl rfl)

theorem sp_D_onlyDefinition (G : gl_T) {t : Nat} {a1 : Int32} {a2 : Int32} {M : mm_T} {y : (Int32 ⊕ String) × mm_T} (h : ff_D_onlyDefinition t a1 a2 M = some y) : sp_S mi_D_onlyDefinition 7 158 G [.ref t, .int a1, .int a2] M (sX_i y).1 (sX_i y).2 := sp_of mo_D_onlyDefinition mw_D_onlyDefinition (Or.inl (by decide +kernel)) rfl rfl (Or.inl rfl) (ip_D_onlyDefinition G t a1 a2 M y h)

set_option maxRecDepth 100000 in
set_option maxHeartbeats 4000000 in
theorem ip_Z_successor (G : gl_T) (a1 : Nat) (a2 : Int32) (a3 : Int32) (a4 : Nat) (M : mm_T) : im_I mi_Z_successor 8 133 G M sw_i (ff_Z_successor a1 a2 a3 a4 M) 0 [some (.ref a1), some (.int a2), some (.int a3), some (.ref a4), none] [] M := by
  unfold ff_Z_successor
  refine im_aload_n 0 0 rfl rfl ?_
  refine im_iconst 1 1 rfl rfl ?_
  refine im_aload_n 2 2 rfl rfl ?_
  refine im_iload_n 3 3 rfl rfl ?_
  refine im_iload_n 4 4 rfl rfl ?_
  refine im_cs (S := [.int (0 : Int32), .ref a4]) (so := (fun v => some (.int v))) (fun _ _ hv => cpV (fr' := 7) (lo' := 111) (i := 5) (As := [.int a2, .int a3]) (S := [.int (0 : Int32), .ref a4]) (a := a1) (c := 10) rfl lk_Z_31 mw_D_successor mv_D_successor rfl ⟨by decide, rfl⟩ rfl rfl rfl (gd_some hv).1 (sp_D_successor G hv)) (fun x1 M1 => ?_) (fun E M1 hv z hz => ?_)
  · refine im_i2l 6 8 rfl ?_
    refine im_lastore 7 9 rfl (fun M2 => ?_)
    refine im_goto 8 10 21 rfl (by decide) ?_
    refine im_iconst 15 21 rfl rfl ?_
    exact im_end rfl (wp_ireturn 16 22 rfl rfl)
  · replace hz : (if E = "java/lang/IndexOutOfBoundsException" then (some ((1 : Int32), M1)) else (if E = "java/util/NoSuchElementException" then (some ((2 : Int32), M1)) else (none))) = some z := hz
    by_cases h2 : E = "java/lang/IndexOutOfBoundsException"
    · rw [if_pos h2] at hz
      subst h2
      refine xpV (fr' := 7) (lo' := 111) (i := 5) (As := [.int a2, .int a3]) (S := [.int (0 : Int32), .ref a4]) (a := a1) (c := 10) rfl lm_Z_31 mw_D_successor mv_D_successor rfl ⟨by decide, rfl⟩ rfl rfl rfl (gd_some hv).1 (sp_D_successor G hv) (tw_catch (n := 0) (i := 9) (len := 2) (j := 4) rfl (fun z hz => by rw [show (tableOf (mi_hh mi_Z_successor)).take 0 = [] from rfl] at hz; exact nomatch hz) (by decide) (by decide) (tb_m 1254 (by decide +kernel) rfl) (List.mem_of_getElem? (i := 2) (by decide +kernel)) rfl (Or.inr ⟨rfl, rfl⟩) rfl ?_)
      refine (?_ : im_I mi_Z_successor 8 133 G M sw_i (some ((1 : Int32), M1)) 15 [some (.ref a1), some (.int a2), some (.int a3), some (.ref a4), none] [] M1) z hz
      refine im_iconst 10 15 rfl rfl ?_
      exact im_end rfl (wp_ireturn 11 16 rfl rfl)
    · rw [if_neg h2] at hz
      by_cases h1 : E = "java/util/NoSuchElementException"
      · rw [if_pos h1] at hz
        subst h1
        refine xpV (fr' := 7) (lo' := 111) (i := 5) (As := [.int a2, .int a3]) (S := [.int (0 : Int32), .ref a4]) (a := a1) (c := 10) rfl lm_Z_31 mw_D_successor mv_D_successor rfl ⟨by decide, rfl⟩ rfl rfl rfl (gd_some hv).1 (sp_D_successor G hv) (tw_catch (n := 1) (i := 12) (len := 2) (j := 4) rfl (tk_Z_successor_1) (by decide) (by decide) (tb_m 1306 (by decide +kernel) rfl) (List.mem_of_getElem? (i := 3) (by decide +kernel)) rfl (Or.inr ⟨rfl, rfl⟩) rfl ?_)
        refine (?_ : im_I mi_Z_successor 8 133 G M sw_i (some ((2 : Int32), M1)) 19 [some (.ref a1), some (.int a2), some (.int a3), some (.ref a4), none] [] M1) z hz
        refine im_iconst 13 19 rfl rfl ?_
        exact im_end rfl (wp_ireturn 14 20 rfl rfl)
      · rw [if_neg h1] at hz
        cases hz

theorem sp_Z_successor (G : gl_T) {a1 : Nat} {a2 : Int32} {a3 : Int32} {a4 : Nat} {M : mm_T} {y : Int32 × mm_T} (h : ff_Z_successor a1 a2 a3 a4 M = some y) : sp_S mi_Z_successor 8 133 G [.ref a1, .int a2, .int a3, .ref a4] M (sw_i y).1 (sw_i y).2 := sp_of mo_Z_successor mw_Z_successor (Or.inl (by decide +kernel)) rfl rfl (Or.inr ⟨_, rfl⟩) (ip_Z_successor G a1 a2 a3 a4 M y h)

set_option maxRecDepth 100000 in
set_option maxHeartbeats 4000000 in
theorem ip_Z_onlyDefinition (G : gl_T) (a1 : Nat) (a2 : Int32) (a3 : Int32) (a4 : Nat) (M : mm_T) : im_I mi_Z_onlyDefinition 8 181 G M sw_i (ff_Z_onlyDefinition a1 a2 a3 a4 M) 0 [some (.ref a1), some (.int a2), some (.int a3), some (.ref a4), none] [] M := by
  unfold ff_Z_onlyDefinition
  refine im_aload_n 0 0 rfl rfl ?_
  refine im_iconst 1 1 rfl rfl ?_
  refine im_aload_n 2 2 rfl rfl ?_
  refine im_iload_n 3 3 rfl rfl ?_
  refine im_iload_n 4 4 rfl rfl ?_
  refine im_cs (S := [.int (0 : Int32), .ref a4]) (so := (fun v => some (.int v))) (fun _ _ hv => cpV (fr' := 7) (lo' := 158) (i := 5) (As := [.int a2, .int a3]) (S := [.int (0 : Int32), .ref a4]) (a := a1) (c := 10) rfl lk_Z_60 mw_D_onlyDefinition mv_D_onlyDefinition rfl ⟨by decide, rfl⟩ rfl rfl rfl (gd_some hv).1 (sp_D_onlyDefinition G hv)) (fun x1 M1 => ?_) (fun E M1 hv z hz => ?_)
  · refine im_i2l 6 8 rfl ?_
    refine im_lastore 7 9 rfl (fun M2 => ?_)
    refine im_goto 8 10 21 rfl (by decide) ?_
    refine im_iconst 15 21 rfl rfl ?_
    exact im_end rfl (wp_ireturn 16 22 rfl rfl)
  · replace hz : (if E = "java/lang/IndexOutOfBoundsException" then (some ((1 : Int32), M1)) else (if E = "java/util/NoSuchElementException" then (some ((2 : Int32), M1)) else (none))) = some z := hz
    by_cases h2 : E = "java/lang/IndexOutOfBoundsException"
    · rw [if_pos h2] at hz
      subst h2
      refine xpV (fr' := 7) (lo' := 158) (i := 5) (As := [.int a2, .int a3]) (S := [.int (0 : Int32), .ref a4]) (a := a1) (c := 10) rfl lm_Z_60 mw_D_onlyDefinition mv_D_onlyDefinition rfl ⟨by decide, rfl⟩ rfl rfl rfl (gd_some hv).1 (sp_D_onlyDefinition G hv) (tw_catch (n := 0) (i := 9) (len := 2) (j := 4) rfl (fun z hz => by rw [show (tableOf (mi_hh mi_Z_onlyDefinition)).take 0 = [] from rfl] at hz; exact nomatch hz) (by decide) (by decide) (tb_m 1254 (by decide +kernel) rfl) (List.mem_of_getElem? (i := 2) (by decide +kernel)) rfl (Or.inr ⟨rfl, rfl⟩) rfl ?_)
      refine (?_ : im_I mi_Z_onlyDefinition 8 181 G M sw_i (some ((1 : Int32), M1)) 15 [some (.ref a1), some (.int a2), some (.int a3), some (.ref a4), none] [] M1) z hz
      refine im_iconst 10 15 rfl rfl ?_
      exact im_end rfl (wp_ireturn 11 16 rfl rfl)
    · rw [if_neg h2] at hz
      by_cases h1 : E = "java/util/NoSuchElementException"
      · rw [if_pos h1] at hz
        subst h1
        refine xpV (fr' := 7) (lo' := 158) (i := 5) (As := [.int a2, .int a3]) (S := [.int (0 : Int32), .ref a4]) (a := a1) (c := 10) rfl lm_Z_60 mw_D_onlyDefinition mv_D_onlyDefinition rfl ⟨by decide, rfl⟩ rfl rfl rfl (gd_some hv).1 (sp_D_onlyDefinition G hv) (tw_catch (n := 1) (i := 12) (len := 2) (j := 4) rfl (tk_Z_onlyDefinition_1) (by decide) (by decide) (tb_m 1306 (by decide +kernel) rfl) (List.mem_of_getElem? (i := 3) (by decide +kernel)) rfl (Or.inr ⟨rfl, rfl⟩) rfl ?_)
        refine (?_ : im_I mi_Z_onlyDefinition 8 181 G M sw_i (some ((2 : Int32), M1)) 19 [some (.ref a1), some (.int a2), some (.int a3), some (.ref a4), none] [] M1) z hz
        refine im_iconst 13 19 rfl rfl ?_
        exact im_end rfl (wp_ireturn 14 20 rfl rfl)
      · rw [if_neg h1] at hz
        cases hz

theorem sp_Z_onlyDefinition (G : gl_T) {a1 : Nat} {a2 : Int32} {a3 : Int32} {a4 : Nat} {M : mm_T} {y : Int32 × mm_T} (h : ff_Z_onlyDefinition a1 a2 a3 a4 M = some y) : sp_S mi_Z_onlyDefinition 8 181 G [.ref a1, .int a2, .int a3, .ref a4] M (sw_i y).1 (sw_i y).2 := sp_of mo_Z_onlyDefinition mw_Z_onlyDefinition (Or.inl (by decide +kernel)) rfl rfl (Or.inr ⟨_, rfl⟩) (ip_Z_onlyDefinition G a1 a2 a3 a4 M y h)
