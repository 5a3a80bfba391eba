/-! ===== deadShare and meanLive, both sides ===== -/
theorem zf_okF : ∀ b, b < 41 → ∀ a, a < 41 → 0 < b → (FP.fdiv (FP.i2f (nI a)) (FP.i2f (nI b))) &&& 0x7fffffff ≤ 0x7f800000 ∧ (FP.f2d (FP.fdiv (FP.i2f (nI a)) (FP.i2f (nI b)))) &&& 0x7fffffffffffffff ≤ 0x7ff0000000000000 := by decide +kernel
theorem zf_okD : ∀ b, b < 41 → ∀ a, a < 321 → 0 < b → (FP.ddiv (FP.i2d (nI a)) (FP.i2d (nI b))) &&& 0x7fffffffffffffff ≤ 0x7ff0000000000000 := by decide +kernel
theorem zf_ok0 : (FP.f2d FP.fconst0) &&& 0x7fffffffffffffff ≤ 0x7ff0000000000000 := by decide +kernel
theorem zf_ok1 : FP.dconst0 &&& 0x7fffffffffffffff ≤ 0x7ff0000000000000 := by decide +kernel
def zp_nd (P : zp_T) : Nat := fb_ct (fun i => decide (zp_k P i ≠ 3)) (zp_ni P)
noncomputable def zv_deadShare (P : zp_T) : UInt32 := if zp_nd P = 0 then FP.fconst0 else FP.fdiv (FP.i2f (nI (zv_dead P))) (FP.i2f (nI (zp_nd P)))
noncomputable def zv_meanLive (P : zp_T) : UInt64 := if zp_ni P = 0 then FP.dconst0 else FP.ddiv (FP.i2d (nI (fb_sm (zp_ln P) (zp_ni P)))) (FP.i2d (nI (zp_ni P)))
theorem zp_nd_le {P : zp_T} (hV : zp_V P) : zp_nd P ≤ 40 := Nat.le_trans (fb_ct_le _ _) hV.2.2.1
theorem zv_dead_le {P : zp_T} (hV : zp_V P) : zv_dead P ≤ 40 := Nat.le_trans (fb_ct_le _ _) hV.2.2.1
theorem zp_sl_le {P : zp_T} (hV : zp_V P) (n : Nat) : n ≤ 40 → fb_sm (zp_ln P) n ≤ 320 := fun h => Nat.le_trans (fb_sm_bound (c := 8) (fun k _ => fb_ct_le _ _)) (by omega)
theorem zv_fdiv {P : zp_T} (hV : zp_V P) (h : zp_nd P ≠ 0) : fo_div (FP.i2f (nI (zv_dead P))) (FP.i2f (nI (zp_nd P))) = some (zv_deadShare P) := by
  unfold fo_div zv_deadShare
  rw [if_neg h, if_pos (zf_okF _ (by have := zp_nd_le hV; omega) _ (by have := zv_dead_le hV; omega) (by omega)).1]
theorem zv_f2d {P : zp_T} (hV : zp_V P) : do_f2d (zv_deadShare P) = some (FP.f2d (zv_deadShare P)) ∧ FP.f2d (zv_deadShare P) &&& 0x7fffffffffffffff ≤ 0x7ff0000000000000 := by
  have h : FP.f2d (zv_deadShare P) &&& 0x7fffffffffffffff ≤ 0x7ff0000000000000 := by
    unfold zv_deadShare
    split
    · exact zf_ok0
    · exact (zf_okF _ (by have := zp_nd_le hV; omega) _ (by have := zv_dead_le hV; omega) (by omega)).2
  refine ⟨?_, h⟩
  unfold do_f2d
  rw [if_pos h]
theorem zv_ddiv {P : zp_T} (hV : zp_V P) (h : zp_ni P ≠ 0) : do_div (FP.i2d (nI (fb_sm (zp_ln P) (zp_ni P)))) (FP.i2d (nI (zp_ni P))) = some (zv_meanLive P) := by
  have hni := hV.2.2.1
  unfold do_div zv_meanLive
  rw [if_neg h, if_pos (zf_okD _ (by omega) _ (by have := zp_sl_le hV _ hni; omega) (by omega))]
theorem zv_meanOk {P : zp_T} (hV : zp_V P) : zv_meanLive P &&& 0x7fffffffffffffff ≤ 0x7ff0000000000000 := by
  have hni := hV.2.2.1
  unfold zv_meanLive
  split
  · exact zf_ok1
  · exact zf_okD _ (by omega) _ (by have := zp_sl_le hV _ hni; omega) (by omega)
section ZCA1
variable {M : mm_T} {P : zp_T}
theorem zr_countDefs {t : Nat} (hP : zo_P M t) (hH : zo_H M t P) (hV : zp_V P) : ff_P_countDefinitions t M = some (nI (zp_nd P)) := by
  have hni := hV.2.2.1
  unfold ff_P_countDefinitions
  rw [zq_gd (by rw [hP.1])]
  refine zh_is (zh_up (F := fun fu i (x : Int32) => lf_P_countDefinitions_4 t M fu x i) (Q := fun y => y = nI (zp_nd P)) (zp_ni P) (fun i x => x = nI (fb_ct (fun i => decide (zp_k P i ≠ 3)) i)) ?_ ?_ fu_L 0 0 (Nat.zero_le _) (by rw [zs_fuel]; omega) rfl)
  · intro fu i x hi hx k
    show zh_H (lb_P_countDefinitions_4 t M (lf_P_countDefinitions_4 t M fu) x (nI i)) _
    unfold lb_P_countDefinitions_4
    have ht8 : zp_t P i < 8 := (hV.2.2.2.2.2.2.2 i hi).2.1
    rw [zr_instr hP hH, Option.bind_some, if_neg (nI_ge hi (by omega)), zr_definedAt hP hH hV (Or.inl hi), Option.bind_some, zq_jp, hx]
    simp only [Option.bind_some, nI_1]
    by_cases c : zp_k P i = 3
    · have ed : zp_df P i = none := by unfold zp_df; rw [if_neg (fun z => z.2 c)]
      rw [ed, zo_none, if_pos rfl, Int32.add_zero]
      refine k _ ?_
      rw [fb_ct_succ, decide_eq_false (fun z => z c)]; rfl
    · have ed : zp_df P i = some (zp_t P i) := by unfold zp_df; rw [if_pos ⟨by omega, c⟩]
      rw [ed, zo_some, if_neg (zi_n1 (by omega))]
      refine k _ ?_
      rw [fb_ct_succ, decide_eq_true c]; rfl
  · intro fu x hx
    show zh_H (lb_P_countDefinitions_4 t M (lf_P_countDefinitions_4 t M fu) x (nI (zp_ni P))) _
    unfold lb_P_countDefinitions_4
    rw [zr_instr hP hH, Option.bind_some, if_pos (nI_le (Nat.le_refl _) (by omega)), hx]
    exact zh_some rfl
theorem ze_sumLive (q : zc_Q M P) (zd : zd_L M P) : ff_L_sumLive 28 45 M = some (nI (fb_sm (zp_ln P) (zp_ni P))) := by
  have hV := q.2.1.2.2
  have hni := hV.2.2.1
  unfold ff_L_sumLive
  rw [zq_gd (ze_e28 q)]
  refine zh_is (zh_up (F := fun fu i (x : Int32) => lf_L_sumLive_4 28 45 M fu x i) (Q := fun y => y = nI (fb_sm (zp_ln P) (zp_ni P))) (zp_ni P) (fun i x => x = nI (fb_sm (zp_ln P) i)) ?_ ?_ fu_L 0 0 (Nat.zero_le _) (by rw [zs_fuel]; omega) rfl)
  · intro fu i x hi hx k
    show zh_H (lb_L_sumLive_4 28 45 M (lf_L_sumLive_4 28 45 M fu) x (nI i)) _
    unfold lb_L_sumLive_4
    have eq : fb_ct (bt (mm_I M 29 i)) 32 = zp_ln P i := by
      rw [fb_ct_cong (q := fun v => zp_b (zp_LV P v i)) (fun v hv => zp_b_eq (zd.1 i (by omega) v hv))]
      exact zs_cut (by omega) (fun v hv => zp_bF (fun z => by have := zp_LV_lt z; omega))
    rw [zr_instr q.2.1.1 q.2.1.2.1, Option.bind_some, if_neg (nI_ge hi (by omega)), zg_R (ze_e28 q), Option.bind_some, q.2.2.1.2.2.1.2.1.1, zd_at q.2.2.1.2.2.1.2.2.1 (show i < 52 by omega) (by omega), Option.bind_some, zq_I, Option.bind_some, eq, hx, Option.bind_some, Option.bind_some, nI_1, nI_add]
    exact k _ rfl
  · intro fu x hx
    show zh_H (lb_L_sumLive_4 28 45 M (lf_L_sumLive_4 28 45 M fu) x (nI (zp_ni P))) _
    unfold lb_L_sumLive_4
    rw [zr_instr q.2.1.1 q.2.1.2.1, Option.bind_some, if_pos (nI_le (Nat.le_refl _) (by omega)), hx]
    exact zh_some rfl
theorem zc_deadShare (h : zc_Q M P) : ∃ M', ff_D_deadShare 1 M = some (zv_deadShare P, M') ∧ zf_F M M' zc_A ∧ zc_Q M' P := by
  have hV := h.2.1.2.2
  have hnd := zp_nd_le hV
  unfold ff_D_deadShare
  rw [zq_gd (zc_e1 h), zg_R (zc_e1 h), Option.bind_some, h.1.2.1, zr_countDefs h.2.1.1 h.2.1.2.1 hV, Option.bind_some]
  by_cases c : zp_nd P = 0
  · rw [if_pos (by rw [c]; rfl)]
    exact ⟨M, by unfold zv_deadShare; rw [if_pos c], zf_rfl _ _, h⟩
  · rw [if_neg (nI_ne0 (by omega) (by omega))]
    obtain ⟨M', e, f, q, zd⟩ := zc_liveness h
    unfold bd_2
    rw [e, Option.bind_some]
    show ∃ M'', ((gf_R M' 1 10 0).bind _) = _ ∧ _
    rw [zg_R (zc_e1 q), Option.bind_some, q.1.2.1]
    show ∃ M'', ((ff_L_countDead 28 45 M').bind _) = _ ∧ _
    rw [ze_countDead q zd, Option.bind_some, zv_fdiv hV c, Option.bind_some]
    exact ⟨M', rfl, ze_zc f, q⟩
theorem zc_meanLive (h : zc_Q M P) : ∃ M', ff_D_meanLive 1 M = some (zv_meanLive P, M') ∧ zf_F M M' zc_A ∧ zc_Q M' P := by
  have hV := h.2.1.2.2
  have hni := hV.2.2.1
  unfold ff_D_meanLive
  rw [zq_gd (zc_e1 h), zg_R (zc_e1 h), Option.bind_some, h.1.2.1, zr_instr h.2.1.1 h.2.1.2.1, Option.bind_some]
  by_cases c : zp_ni P = 0
  · rw [if_pos (by rw [c]; rfl)]
    exact ⟨M, by unfold zv_meanLive; rw [if_pos c], zf_rfl _ _, h⟩
  · rw [if_neg (nI_ne0 (by omega) (by omega))]
    obtain ⟨M', e, f, q, zd⟩ := zc_liveness h
    unfold bd_2
    rw [e, Option.bind_some]
    show ∃ M'', ((gf_R M' 1 10 0).bind _) = _ ∧ _
    rw [zg_R (zc_e1 q), Option.bind_some, q.1.2.1]
    show ∃ M'', ((ff_L_sumLive 28 45 M').bind _) = _ ∧ _
    rw [ze_sumLive q zd, Option.bind_some, Option.bind_some, zr_instr q.2.1.1 q.2.1.2.1, Option.bind_some, zv_ddiv hV c, Option.bind_some]
    exact ⟨M', rfl, ze_zc f, q⟩
end ZCA1
section ZTA1
variable {M : mm_T} {o : Nat} {P : zp_T}
theorem zt_defs (h : zt_S M o P) : ff_M_definitions 52 M = some (nI (zp_nd P)) := by
  have hni := h.2.2.2.2.2.2.1
  unfold ff_M_definitions
  rw [zq_gd (zt_e52 h)]
  refine zh_is (zh_up (F := fun fu i (x : Int32) => lf_M_definitions_4 52 M fu x i) (Q := fun y => y = nI (zp_nd P)) (zp_ni P) (fun i x => x = nI (fb_ct (fun i => decide (zp_k P i ≠ 3)) i)) ?_ ?_ fu_L 0 0 (Nat.zero_le _) (by rw [zs_fuel]; omega) rfl)
  · intro fu i x hi hx k
    show zh_H (lb_M_definitions_4 52 M (lf_M_definitions_4 52 M fu) x (nI i)) _
    unfold lb_M_definitions_4
    rw [zt_ni h, Option.bind_some, if_neg (nI_ge hi (by omega)), zt_isDef h hi, Option.bind_some, zt_one, Option.bind_some, Option.bind_some, Option.bind_some, nI_1, hx, nI_add]
    refine k _ ?_
    rw [fb_ct_succ]
  · intro fu x hx
    show zh_H (lb_M_definitions_4 52 M (lf_M_definitions_4 52 M fu) x (nI (zp_ni P))) _
    unfold lb_M_definitions_4
    rw [zt_ni h, Option.bind_some, if_pos (nI_le (Nat.le_refl _) (by omega)), hx]
    exact zh_some rfl
theorem zt_deadShare (h : zt_S M o P) : ∃ M', ff_M_deadShare 52 M = some (zv_deadShare P, M') ∧ zf_F (mm_sI M 52 4 0) M' zt_A := by
  have hV := h.2.2.2.2
  have hnd := zp_nd_le hV
  have h1 := h.thrown 0
  unfold ff_M_deadShare
  rw [zq_gd (zt_e52 h), zp_I (zt_e52 h), Option.bind_some, zt_defs h1, Option.bind_some]
  by_cases c : zp_nd P = 0
  · rw [if_pos (by rw [c]; rfl)]
    exact ⟨_, by unfold zv_deadShare; rw [if_pos c], zf_rfl _ _⟩
  · rw [if_neg (nI_ne0 (by omega) (by omega))]
    obtain ⟨N, e, f⟩ := zt_allDead h1
    unfold bd_2
    rw [e, Option.bind_some]
    show ∃ M'', ((ff_M_definitions 52 N).bind _) = _ ∧ _
    rw [zt_defs (h1.keepA f (fun a h => h)), Option.bind_some, zv_fdiv hV c, Option.bind_some]
    exact ⟨N, rfl, f⟩
theorem zt_meanLive (h : zt_S M o P) : ∃ M', ff_M_meanLive 52 M = some (zv_meanLive P, M') ∧ zf_F (mm_sI M 52 4 0) M' zt_A := by
  have hV := h.2.2.2.2
  have hni := hV.2.2.1
  have h1 := h.thrown 0
  suffices goal : zh_H (ff_M_meanLive 52 M) (fun y => ∃ N, y = (zv_meanLive P, N) ∧ zf_F (mm_sI M 52 4 0) N zt_A) by
    obtain ⟨y, e, N, rfl, f⟩ := goal
    exact ⟨N, e, f⟩
  unfold ff_M_meanLive
  rw [zq_gd (zt_e52 h), zp_I (zt_e52 h), Option.bind_some]
  generalize mm_sI M 52 4 0 = M0 at h1 ⊢
  have aux : ∀ (k0 : Int32 → mm_T → Option (UInt64 × mm_T)) (Q : UInt64 × mm_T → Prop), (∀ N, zf_F M0 N zt_A → zh_H (k0 (nI (fb_sm (zp_ln P) (zp_ni P))) N) Q) → zh_H (lf_M_meanLive_9 k0 52 fu_L 0 0 M0) Q := by
    intro k0 Q hk
    refine zh_up (F := fun fu i (s : Int32 × mm_T) => lf_M_meanLive_9 k0 52 fu s.1 i s.2) (zp_ni P) (fun i s => s.1 = nI (fb_sm (zp_ln P) i) ∧ zf_F M0 s.2 zt_A) ?_ ?_ fu_L 0 (0, M0) (Nat.zero_le _) (by rw [zs_fuel]; omega) ⟨rfl, zf_rfl _ _⟩
    · intro fu i s hi ⟨g1, g2⟩ k
      obtain ⟨x, N⟩ := s
      simp only at g1 g2
      have hS : zt_S N o P := h1.keepA g2 (fun a h => h)
      have hbl := zp_bk_lt hV hi
      have hlo := zp_bk_lo hV hi
      have hhi := zp_bk_hi hV hi
      have epl : zp_pl P (zp_bk P i) i = i := by unfold zp_pl; rw [if_pos hhi]
      show zh_H (lb_M_meanLive_9 k0 52 (lf_M_meanLive_9 k0 52 fu) x (nI i) N) _
      unfold lb_M_meanLive_9
      rw [zt_ni hS, Option.bind_some, if_neg (nI_ge hi (by omega)), zt_blockAt hS hi, Option.bind_some]
      obtain ⟨N2, e, f⟩ := zt_liveAt hS hbl hlo (by omega)
      unfold bd_2
      rw [e, Option.bind_some, epl]
      show zh_H ((some (x + nI (zp_ln P i))).bind _) _
      rw [Option.bind_some, Option.bind_some, nI_1, g1, nI_add]
      exact k (_, N2) ⟨rfl, zf_tr g2 f⟩
    · intro fu s ⟨g1, g2⟩
      obtain ⟨x, N⟩ := s
      simp only at g1 g2
      have hS : zt_S N o P := h1.keepA g2 (fun a h => h)
      show zh_H (lb_M_meanLive_9 k0 52 (lf_M_meanLive_9 k0 52 fu) x (nI (zp_ni P)) N) _
      unfold lb_M_meanLive_9
      rw [zt_ni hS, Option.bind_some, if_pos (nI_le (Nat.le_refl _) (by omega)), g1]
      exact hk N g2
  refine aux _ _ (fun N f => ?_)
  have hS : zt_S N o P := h1.keepA f (fun a h => h)
  show zh_H ((ff_M_get 52 1 N).bind _) _
  rw [zt_ni hS, Option.bind_some]
  by_cases c : zp_ni P = 0
  · rw [if_pos (by rw [c]; rfl)]
    exact zh_some ⟨N, by unfold zv_meanLive; rw [if_pos c], f⟩
  · rw [if_neg (nI_ne0 (by omega) (by omega)), Option.bind_some, zv_ddiv hV c, Option.bind_some]
    exact zh_some ⟨N, rfl, f⟩
end ZTA1
