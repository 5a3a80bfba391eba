/-! ===== answers on constants: the reference ===== -/
section ZTQ
variable {M : mm_T} {o : Nat} {P : zp_T}
theorem zt_constantAt (h : zt_S M o P) (a v : Int32) : zt_O (ff_M_constantAt 52 a v M) M (zv_constantAt P a v) := by
  have hV := h.2.2.2.2
  unfold ff_M_constantAt zv_constantAt
  rw [zq_gd (zt_e52 h)]
  refine zt_opB h (fun c h1 => ?_)
  refine zt_opV2 (k := 2) h (by omega) (fun c2 => ?_)
  obtain ⟨hb, ea⟩ := zi_An c
  obtain ⟨hv, ev⟩ := zi_An c2
  generalize zi_n a = b at hb ea
  generalize zi_n v = w at hv ev
  subst ea ev
  rw [zt_firstOf h1 (by omega), Option.bind_some]
  obtain ⟨N, e, f⟩ := zt_constAt h1 hb (Nat.le_refl _) (hV.2.2.2.2.1 b hb) hv
  unfold bd_2
  rw [e, Option.bind_some, ← zp_fp_pl]
  exact zt_retF f
theorem zt_cof (h : zt_S M o P) {i : Nat} (hi : i < zp_ni P) : ∃ N, ff_M_constantGiven 52 (nI i) M = some (zp_cof P i, N) ∧ zf_F M N zt_A := by
  have hV := h.2.2.2.2
  have hdf := zt_df h hi
  unfold ff_M_constantGiven zp_cof
  rw [zq_gd (zt_e52 h), zt_isDef h hi, Option.bind_some]
  by_cases c : zp_k P i = 3
  · rw [if_pos (by simp [c, zb_B])]
    rw [if_neg (fun q => q c)] at hdf
    rw [hdf]
    exact ⟨M, rfl, zf_rfl _ _⟩
  · rw [if_neg (by simp [c, zb_B]), zt_blockAt h hi, Option.bind_some, zt_t h hi, Option.bind_some, nI_1]
    rw [if_pos c] at hdf
    have ht : zp_t P i < 8 := zp_df_lt hV (Or.inl hi) hdf
    have hbl := zp_bk_lt hV hi
    have hlo := zp_bk_lo hV hi
    have hhi := zp_bk_hi hV hi
    obtain ⟨N, e, f⟩ := zt_constAt h hbl (k := i + 1) (by omega) (by omega) ht
    unfold bd_2
    rw [e, Option.bind_some, hdf]
    exact ⟨N, rfl, f⟩
theorem zt_constantOf (h : zt_S M o P) (a : Int32) : zt_O (ff_M_constantOf 52 a M) M (zv_constantOf P a) := by
  unfold ff_M_constantOf zv_constantOf
  rw [zq_gd (zt_e52 h)]
  refine zt_opI h (fun c h1 => ?_)
  obtain ⟨hi, ea⟩ := zi_An c
  generalize zi_n a = i at hi ea
  subst ea
  obtain ⟨N, e, f⟩ := zt_cof h1 hi
  unfold bd_2
  rw [e, Option.bind_some]
  exact zt_retF f
theorem zt_decidedBranches (h : zt_S M o P) : zt_O (ff_M_decidedBranches 52 M) M (0, nI (zv_decided P)) := by
  have hV := h.2.2.2.2
  have hnb := hV.2.1
  unfold ff_M_decidedBranches
  rw [zq_gd (zt_e52 h), zp_I (zt_e52 h), Option.bind_some]
  have h1 := h.thrown 0
  suffices goal : zh_H (lf_M_decidedBranches_9 52 fu_L 0 0 (mm_sI M 52 4 0)) (fun y => ∃ N, y = (nI (zv_decided P), N) ∧ zf_F (mm_sI M 52 4 0) N zt_A) by
    obtain ⟨y, e, N, rfl, f⟩ := goal
    rw [e]
    exact zt_retF f
  generalize mm_sI M 52 4 0 = M0 at h1 ⊢
  refine zh_up (F := fun fu i (s : Int32 × mm_T) => lf_M_decidedBranches_9 52 fu s.1 i s.2) (zp_nb P) (fun i s => s.1 = nI (fb_ct (zp_dc P) i) ∧ zf_F M0 s.2 zt_A) ?_ ?_ fu_L 0 (0, M0) (Nat.zero_le _) (by rw [zs_fuel]; omega) ⟨rfl, zf_rfl _ _⟩
  · intro fu b s hb ⟨g1, g2⟩ k
    obtain ⟨x, N⟩ := s
    simp only at g1 g2
    have hS : zt_S N o P := h1.keepA g2 (fun a h => h)
    have hw2 := zp_w_le hV hb
    have hse := hV.2.2.2.2.1 b hb
    have epl : zp_pl P b (zp_st P (b + 1)) = 40 + b := by unfold zp_pl; rw [if_neg (Nat.lt_irrefl _)]
    show zh_H (lb_M_decidedBranches_9 52 (lf_M_decidedBranches_9 52 fu) x (nI b) N) _
    unfold lb_M_decidedBranches_9
    rw [zt_nb hS, Option.bind_some, if_neg (nI_ge hb (by omega)), zt_exit hS hb, Option.bind_some, zq_jp, zq_jp]
    have next : ∀ (N2 : mm_T) (d : Bool), zf_F M0 N2 zt_A → d = zp_dc P b → zh_H ((ff_M_one (zb_B d) N2).bind fun x4 => (some (x + x4)).bind fun x5 => (some (nI b + 1)).bind fun x6 => lf_M_decidedBranches_9 52 fu x5 x6 N2) (fun y => ∃ N, y = (nI (zv_decided P), N) ∧ zf_F M0 N zt_A) := by
      intro N2 d f2 hd
      rw [zt_one, Option.bind_some, Option.bind_some, Option.bind_some, nI_1, g1, nI_add]
      have ee : fb_ct (zp_dc P) b + (if d = true then 1 else 0) = fb_ct (zp_dc P) (b + 1) := by
        rw [fb_ct_succ, hd]
      rw [ee]
      exact k (_, N2) ⟨rfl, f2⟩
    by_cases c : zp_w P b = 2
    · have hx8 := zp_x_lt hV hb c
      rw [if_pos (show nI (zp_w P b) = (2 : Int32) by rw [c]; rfl), zt_endOf hS hb, Option.bind_some, zt_x hS hb c, Option.bind_some]
      obtain ⟨N2, e2, f2⟩ := zt_constAt hS hb hse (Nat.le_refl _) hx8
      rw [epl] at e2
      refine zh_at2 e2 ?_
      by_cases d : zp_cst P (40 + b) (zp_x P b) = -1
      · rw [if_pos d]
        refine next N2 false (zf_tr g2 f2) ?_
        unfold zp_dc
        rw [decide_eq_true c, decide_eq_true d]
        rfl
      · rw [if_neg d]
        refine next N2 true (zf_tr g2 f2) ?_
        unfold zp_dc
        rw [decide_eq_true c, decide_eq_false d]
        rfl
    · rw [if_neg (show ¬ nI (zp_w P b) = (2 : Int32) from fun z => c ((nI_eq (b := 2) (by omega) (by omega)).mp z))]
      refine next N false g2 ?_
      unfold zp_dc
      rw [decide_eq_false c]
      rfl
  · intro fu s ⟨g1, g2⟩
    obtain ⟨x, N⟩ := s
    simp only at g1 g2
    have hS : zt_S N o P := h1.keepA g2 (fun a h => h)
    show zh_H (lb_M_decidedBranches_9 52 (lf_M_decidedBranches_9 52 fu) x (nI (zp_nb P)) N) _
    unfold lb_M_decidedBranches_9
    rw [zt_nb hS, Option.bind_some, if_pos (nI_le (Nat.le_refl _) (by omega)), g1]
    exact zh_some ⟨N, rfl, g2⟩
end ZTQ
