/-! ===== the reference's first state ===== -/
def zi_q0 : zp_T := zQ_0
def zi_q1 : zp_T := zQ_add zi_q0
def zi_q2 : zp_T := zQ_app zi_q1 (0, 0, 5, 0, 0)
def zi_q3 : zp_T := zQ_app zi_q2 (0, 1, 1, 0, 0)
def zi_q4 : zp_T := zQ_app zi_q3 (0, 3, 7, 0, 0)
def zi_q5 : zp_T := zp_setx zi_q4 (zp_nb zi_q4 - 1) (1, 0, 1, 0)
def zi_q6 : zp_T := zQ_add zi_q5
def zi_q7 : zp_T := zQ_app zi_q6 (2, 2, 0, 0, 1)
def zi_q8 : zp_T := zp_setx zi_q7 (zp_nb zi_q7 - 1) (2, 0, 2, 3)
def zi_q9 : zp_T := zQ_add zi_q8
def zi_q10 : zp_T := zQ_app zi_q9 (2, 0, 0, 1, 1)
def zi_q11 : zp_T := zQ_app zi_q10 (2, 4, 0, 0, 1)
def zi_q12 : zp_T := zp_setx zi_q11 (zp_nb zi_q11 - 1) (1, 0, 1, 0)
def zi_q13 : zp_T := zQ_add zi_q12
def zi_q14 : zp_T := zQ_app zi_q13 (3, 0, 2, 0, 0)
def zi_q15 : zp_T := zQ_app zi_q14 (1, 5, 3, 0, 0)
def zi_q16 : zp_T := zp_setx zi_q15 (zp_nb zi_q15 - 1) (0, 0, 0, 0)
theorem zi_initM {M0 : mm_T} (hn : mm_n M0 = 52) (hk : mm_k M0 52 = (11, 0)) (h52 : ∀ i, mm_I M0 52 i = 0) : ∃ M', ff_M_init 52 M0 = some M' ∧ ∃ N, zi_W M0 N ∧ zt_E 0 N M' ∧ kR_H M' zi_q16 4 := by
  unfold ff_M_init
  rw [zq_gd (by rw [hk])]
  obtain ⟨N, hN, eN⟩ := zi_rows hn hk (fun M21 => (ff_M_newBlock 52 M21).bind fun P1 => (ff_M_newItem 52 (0 : Int32) (0 : Int32) (5 : Int32) (0 : Int32) (0 : Int32) P1).bind fun P2 => (ff_M_newItem 52 (0 : Int32) (1 : Int32) (1 : Int32) (0 : Int32) (0 : Int32) P2).bind fun P3 => (ff_M_newItem 52 (0 : Int32) (3 : Int32) (7 : Int32) (0 : Int32) (0 : Int32) P3).bind fun P4 => (ff_M_exits 52 (0 : Int32) (1 : Int32) (0 : Int32) (1 : Int32) (0 : Int32) P4).bind fun P5 => (ff_M_newBlock 52 P5).bind fun P6 => (ff_M_newItem 52 (2 : Int32) (2 : Int32) (0 : Int32) (0 : Int32) (1 : Int32) P6).bind fun P7 => (ff_M_exits 52 (1 : Int32) (2 : Int32) (0 : Int32) (2 : Int32) (3 : Int32) P7).bind fun P8 => (ff_M_newBlock 52 P8).bind fun P9 => (ff_M_newItem 52 (2 : Int32) (0 : Int32) (0 : Int32) (1 : Int32) (1 : Int32) P9).bind fun P10 => (ff_M_newItem 52 (2 : Int32) (4 : Int32) (0 : Int32) (0 : Int32) (1 : Int32) P10).bind fun P11 => (ff_M_exits 52 (2 : Int32) (1 : Int32) (0 : Int32) (1 : Int32) (0 : Int32) P11).bind fun P12 => (ff_M_newBlock 52 P12).bind fun P13 => (ff_M_newItem 52 (3 : Int32) (0 : Int32) (2 : Int32) (0 : Int32) (0 : Int32) P13).bind fun P14 => (ff_M_newItem 52 (1 : Int32) (5 : Int32) (3 : Int32) (0 : Int32) (0 : Int32) P14).bind fun P15 => (ff_M_exits 52 (3 : Int32) (0 : Int32) (0 : Int32) (0 : Int32) (0 : Int32) P15).bind fun P16 => some P16)
  suffices goal : ∃ M', ((ff_M_newBlock 52 N).bind fun P1 => (ff_M_newItem 52 (0 : Int32) (0 : Int32) (5 : Int32) (0 : Int32) (0 : Int32) P1).bind fun P2 => (ff_M_newItem 52 (0 : Int32) (1 : Int32) (1 : Int32) (0 : Int32) (0 : Int32) P2).bind fun P3 => (ff_M_newItem 52 (0 : Int32) (3 : Int32) (7 : Int32) (0 : Int32) (0 : Int32) P3).bind fun P4 => (ff_M_exits 52 (0 : Int32) (1 : Int32) (0 : Int32) (1 : Int32) (0 : Int32) P4).bind fun P5 => (ff_M_newBlock 52 P5).bind fun P6 => (ff_M_newItem 52 (2 : Int32) (2 : Int32) (0 : Int32) (0 : Int32) (1 : Int32) P6).bind fun P7 => (ff_M_exits 52 (1 : Int32) (2 : Int32) (0 : Int32) (2 : Int32) (3 : Int32) P7).bind fun P8 => (ff_M_newBlock 52 P8).bind fun P9 => (ff_M_newItem 52 (2 : Int32) (0 : Int32) (0 : Int32) (1 : Int32) (1 : Int32) P9).bind fun P10 => (ff_M_newItem 52 (2 : Int32) (4 : Int32) (0 : Int32) (0 : Int32) (1 : Int32) P10).bind fun P11 => (ff_M_exits 52 (2 : Int32) (1 : Int32) (0 : Int32) (1 : Int32) (0 : Int32) P11).bind fun P12 => (ff_M_newBlock 52 P12).bind fun P13 => (ff_M_newItem 52 (3 : Int32) (0 : Int32) (2 : Int32) (0 : Int32) (0 : Int32) P13).bind fun P14 => (ff_M_newItem 52 (1 : Int32) (5 : Int32) (3 : Int32) (0 : Int32) (0 : Int32) P14).bind fun P15 => (ff_M_exits 52 (3 : Int32) (0 : Int32) (0 : Int32) (0 : Int32) (0 : Int32) P15).bind fun P16 => some P16) = some M' ∧ zt_E 0 N M' ∧ kR_H M' zi_q16 4 by
    obtain ⟨M', e, g⟩ := goal
    exact ⟨M', eN.trans e, N, hN, g⟩
  clear eN
  obtain ⟨_, _, _, hR, _, w52, w53, _⟩ := hN
  have W0 : zt_W N 0 := ⟨hR, by rw [w52, if_neg (by omega), h52]; rfl, by omega⟩
  have E0 : zt_E 0 N N := zt_E_rfl 0 N
  have H0 : kR_H N zi_q0 0 := ⟨w53 _, w53 _, fun b hb => absurd hb (Nat.not_lt_zero _), fun b hb => absurd hb (Nat.not_lt_zero _), fun b hb => absurd hb (Nat.not_lt_zero _)⟩
  have V0 : zQ_V zi_q0 0 := zQ_V0
  obtain ⟨M1, e1, f1, H1⟩ := kR_newBlock W0 H0 V0 (by decide +kernel)
  have V1 : zQ_V zi_q1 0 := zQ_add_V V0 (by decide +kernel)
  have e1' : ff_M_newBlock 52 N = some M1 := e1
  have W1 := W0.keep f1.1
  have E1 := zt_E_tr E0 f1
  obtain ⟨M2, e2, f2, H2⟩ := kR_newItem W1 H1 V1 (by decide +kernel) (by decide +kernel) (0, 0, 5, 0, 0)
  have V2 : zQ_V zi_q2 0 := zQ_app_V V1 (q := (0, 0, 5, 0, 0)) (by unfold zp_iok; decide) (by decide +kernel) (by decide +kernel)
  have e2' : ff_M_newItem 52 (0 : Int32) (0 : Int32) (5 : Int32) (0 : Int32) (0 : Int32) M1 = some M2 := e2
  have W2 := W1.keep f2.1
  have E2 := zt_E_tr E1 f2
  obtain ⟨M3, e3, f3, H3⟩ := kR_newItem W2 H2 V2 (by decide +kernel) (by decide +kernel) (0, 1, 1, 0, 0)
  have V3 : zQ_V zi_q3 0 := zQ_app_V V2 (q := (0, 1, 1, 0, 0)) (by unfold zp_iok; decide) (by decide +kernel) (by decide +kernel)
  have e3' : ff_M_newItem 52 (0 : Int32) (1 : Int32) (1 : Int32) (0 : Int32) (0 : Int32) M2 = some M3 := e3
  have W3 := W2.keep f3.1
  have E3 := zt_E_tr E2 f3
  obtain ⟨M4, e4, f4, H4⟩ := kR_newItem W3 H3 V3 (by decide +kernel) (by decide +kernel) (0, 3, 7, 0, 0)
  have V4 : zQ_V zi_q4 0 := zQ_app_V V3 (q := (0, 3, 7, 0, 0)) (by unfold zp_iok; decide) (by decide +kernel) (by decide +kernel)
  have e4' : ff_M_newItem 52 (0 : Int32) (3 : Int32) (7 : Int32) (0 : Int32) (0 : Int32) M3 = some M4 := e4
  have W4 := W3.keep f4.1
  have E4 := zt_E_tr E3 f4
  obtain ⟨M5, e5, f5, H5⟩ := kR_close W4 H4 V4 (by decide +kernel) (1, 0, 1, 0)
  have V5 : zQ_V zi_q5 1 := zQ_setx_V V4 (by decide +kernel) (q := (1, 0, 1, 0)) (by decide)
  have e5' : ff_M_exits 52 (0 : Int32) (1 : Int32) (0 : Int32) (1 : Int32) (0 : Int32) M4 = some M5 := e5
  have W5 := W4.keep f5.1
  have E5 := zt_E_tr E4 f5
  obtain ⟨M6, e6, f6, H6⟩ := kR_newBlock W5 H5 V5 (by decide +kernel)
  have V6 : zQ_V zi_q6 1 := zQ_add_V V5 (by decide +kernel)
  have e6' : ff_M_newBlock 52 M5 = some M6 := e6
  have W6 := W5.keep f6.1
  have E6 := zt_E_tr E5 f6
  obtain ⟨M7, e7, f7, H7⟩ := kR_newItem W6 H6 V6 (by decide +kernel) (by decide +kernel) (2, 2, 0, 0, 1)
  have V7 : zQ_V zi_q7 1 := zQ_app_V V6 (q := (2, 2, 0, 0, 1)) (by unfold zp_iok; decide) (by decide +kernel) (by decide +kernel)
  have e7' : ff_M_newItem 52 (2 : Int32) (2 : Int32) (0 : Int32) (0 : Int32) (1 : Int32) M6 = some M7 := e7
  have W7 := W6.keep f7.1
  have E7 := zt_E_tr E6 f7
  obtain ⟨M8, e8, f8, H8⟩ := kR_close W7 H7 V7 (by decide +kernel) (2, 0, 2, 3)
  have V8 : zQ_V zi_q8 2 := zQ_setx_V V7 (by decide +kernel) (q := (2, 0, 2, 3)) (by decide)
  have e8' : ff_M_exits 52 (1 : Int32) (2 : Int32) (0 : Int32) (2 : Int32) (3 : Int32) M7 = some M8 := e8
  have W8 := W7.keep f8.1
  have E8 := zt_E_tr E7 f8
  obtain ⟨M9, e9, f9, H9⟩ := kR_newBlock W8 H8 V8 (by decide +kernel)
  have V9 : zQ_V zi_q9 2 := zQ_add_V V8 (by decide +kernel)
  have e9' : ff_M_newBlock 52 M8 = some M9 := e9
  have W9 := W8.keep f9.1
  have E9 := zt_E_tr E8 f9
  obtain ⟨M10, e10, f10, H10⟩ := kR_newItem W9 H9 V9 (by decide +kernel) (by decide +kernel) (2, 0, 0, 1, 1)
  have V10 : zQ_V zi_q10 2 := zQ_app_V V9 (q := (2, 0, 0, 1, 1)) (by unfold zp_iok; decide) (by decide +kernel) (by decide +kernel)
  have e10' : ff_M_newItem 52 (2 : Int32) (0 : Int32) (0 : Int32) (1 : Int32) (1 : Int32) M9 = some M10 := e10
  have W10 := W9.keep f10.1
  have E10 := zt_E_tr E9 f10
  obtain ⟨M11, e11, f11, H11⟩ := kR_newItem W10 H10 V10 (by decide +kernel) (by decide +kernel) (2, 4, 0, 0, 1)
  have V11 : zQ_V zi_q11 2 := zQ_app_V V10 (q := (2, 4, 0, 0, 1)) (by unfold zp_iok; decide) (by decide +kernel) (by decide +kernel)
  have e11' : ff_M_newItem 52 (2 : Int32) (4 : Int32) (0 : Int32) (0 : Int32) (1 : Int32) M10 = some M11 := e11
  have W11 := W10.keep f11.1
  have E11 := zt_E_tr E10 f11
  obtain ⟨M12, e12, f12, H12⟩ := kR_close W11 H11 V11 (by decide +kernel) (1, 0, 1, 0)
  have V12 : zQ_V zi_q12 3 := zQ_setx_V V11 (by decide +kernel) (q := (1, 0, 1, 0)) (by decide)
  have e12' : ff_M_exits 52 (2 : Int32) (1 : Int32) (0 : Int32) (1 : Int32) (0 : Int32) M11 = some M12 := e12
  have W12 := W11.keep f12.1
  have E12 := zt_E_tr E11 f12
  obtain ⟨M13, e13, f13, H13⟩ := kR_newBlock W12 H12 V12 (by decide +kernel)
  have V13 : zQ_V zi_q13 3 := zQ_add_V V12 (by decide +kernel)
  have e13' : ff_M_newBlock 52 M12 = some M13 := e13
  have W13 := W12.keep f13.1
  have E13 := zt_E_tr E12 f13
  obtain ⟨M14, e14, f14, H14⟩ := kR_newItem W13 H13 V13 (by decide +kernel) (by decide +kernel) (3, 0, 2, 0, 0)
  have V14 : zQ_V zi_q14 3 := zQ_app_V V13 (q := (3, 0, 2, 0, 0)) (by unfold zp_iok; decide) (by decide +kernel) (by decide +kernel)
  have e14' : ff_M_newItem 52 (3 : Int32) (0 : Int32) (2 : Int32) (0 : Int32) (0 : Int32) M13 = some M14 := e14
  have W14 := W13.keep f14.1
  have E14 := zt_E_tr E13 f14
  obtain ⟨M15, e15, f15, H15⟩ := kR_newItem W14 H14 V14 (by decide +kernel) (by decide +kernel) (1, 5, 3, 0, 0)
  have V15 : zQ_V zi_q15 3 := zQ_app_V V14 (q := (1, 5, 3, 0, 0)) (by unfold zp_iok; decide) (by decide +kernel) (by decide +kernel)
  have e15' : ff_M_newItem 52 (1 : Int32) (5 : Int32) (3 : Int32) (0 : Int32) (0 : Int32) M14 = some M15 := e15
  have W15 := W14.keep f15.1
  have E15 := zt_E_tr E14 f15
  obtain ⟨M16, e16, f16, H16⟩ := kR_close W15 H15 V15 (by decide +kernel) (0, 0, 0, 0)
  have V16 : zQ_V zi_q16 4 := zQ_setx_V V15 (by decide +kernel) (q := (0, 0, 0, 0)) (by decide)
  have e16' : ff_M_exits 52 (3 : Int32) (0 : Int32) (0 : Int32) (0 : Int32) (0 : Int32) M15 = some M16 := e16
  have W16 := W15.keep f16.1
  have E16 := zt_E_tr E15 f16
  rw [e1', Option.bind_some, e2', Option.bind_some, e3', Option.bind_some, e4', Option.bind_some, e5', Option.bind_some, e6', Option.bind_some, e7', Option.bind_some, e8', Option.bind_some, e9', Option.bind_some, e10', Option.bind_some, e11', Option.bind_some, e12', Option.bind_some, e13', Option.bind_some, e14', Option.bind_some, e15', Option.bind_some, e16', Option.bind_some]
  exact ⟨M16, rfl, E16, H16⟩
