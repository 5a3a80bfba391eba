/-! ===== answers on liveness: the class's interference, the reference ===== -/
section ZCI
variable {M : mm_T} {P : zp_T}
theorem ze_clashes (q : zc_Q M P) (zd : zd_L M P) {v w : Nat} (hv : v < 8) (hw : w < 8) : ff_L_clashes 28 45 (nI v) (nI w) M = some (zb_B (zp_b (zp_clash P v w))) := by
  have hV := q.2.1.2.2
  have hni := hV.2.2.1
  unfold ff_L_clashes
  rw [zq_gd (ze_e28 q)]
  refine zh_is (zh_up (F := fun fu i (_ : Unit) => lf_L_clashes_3 28 45 (nI v) (nI w) M fu i) (Q := fun y => y = zb_B (zp_b (zp_clash P v w))) (zp_ni P) (fun i _ => ∀ e, e < i → ¬ (zp_df P e = some v ∧ ¬ (zp_k P e = 1 ∧ zp_l P e = w) ∧ zp_LV P w (zp_pl P (zp_bk P e) (e + 1)))) ?_ ?_ fu_L 0 () (Nat.zero_le _) (by rw [zs_fuel]; omega) (fun e he => absurd he (Nat.not_lt_zero _)))
  · intro fu i _ hi g k
    have hk3 : zp_k P i ≤ 3 := (hV.2.2.2.2.2.2.2 i hi).1
    show zh_H (lb_L_clashes_3 28 45 (nI v) (nI w) M (lf_L_clashes_3 28 45 (nI v) (nI w) M fu) (nI i)) _
    unfold lb_L_clashes_3
    rw [zr_instr q.2.1.1 q.2.1.2.1, Option.bind_some, if_neg (nI_ge hi (by omega)), zr_kindAt q.2.1.1 q.2.1.2.1 hV (p := i) (Or.inl hi), Option.bind_some, if_pos (show i < 40 by omega)]
    simp only [zq_jp, zr_definedAt q.2.1.1 q.2.1.2.1 hV (p := i) (Or.inl hi), Option.bind_some, nI_1]
    have next : ¬ (zp_df P i = some v ∧ ¬ (zp_k P i = 1 ∧ zp_l P i = w) ∧ zp_LV P w (zp_pl P (zp_bk P i) (i + 1))) → zh_H (lf_L_clashes_3 28 45 (nI v) (nI w) M fu (nI (i + 1))) (fun y => y = zb_B (zp_b (zp_clash P v w))) := fun z => k () (fun e he => by
      rcases Nat.lt_or_ge e i with z2 | z2
      · exact g e z2
      · rw [show e = i by omega]; exact z)
    have dfv : (zo_N (zp_df P i) = nI v) ↔ zp_df P i = some v := by
      cases e : zp_df P i with
      | none => exact ⟨fun z => absurd z.symm (zi_n1 (by omega)), fun z => by cases z⟩
      | some t =>
        have ht : t < 8 := zp_df_lt hV (Or.inl hi) e
        constructor
        · intro z
          have := (nI_eq (a := t) (b := v) (by omega) (by omega)).mp z
          rw [this]
        · intro z
          cases z
          rfl
    have copied : (zp_k P i = 1 ∧ zp_l P i = w) → zh_H (if zo_N (zp_df P i) = nI v then (if (1 : Int32) = 0 then (gf_R M 28 4 2).bind fun x6 => (ff_D_at_a x6 (nI i) M).bind fun x7 => (ff_D_hasBit x7.toInt64 (nI w) M).bind fun x8 => if x8 = 0 then lf_L_clashes_3 28 45 (nI v) (nI w) M fu (nI (i + 1)) else some 1 else lf_L_clashes_3 28 45 (nI v) (nI w) M fu (nI (i + 1))) else lf_L_clashes_3 28 45 (nI v) (nI w) M fu (nI (i + 1))) (fun y => y = zb_B (zp_b (zp_clash P v w))) := by
      intro z
      by_cases c : zo_N (zp_df P i) = nI v
      · rw [if_pos c, if_neg (by decide)]
        exact next (fun q => q.2.1 z)
      · rw [if_neg c]
        exact next (fun q => q.2.1 z)
    have plain : ¬ (zp_k P i = 1 ∧ zp_l P i = w) → zh_H (if zo_N (zp_df P i) = nI v then (if (0 : Int32) = 0 then (gf_R M 28 4 2).bind fun x6 => (ff_D_at_a x6 (nI i) M).bind fun x7 => (ff_D_hasBit x7.toInt64 (nI w) M).bind fun x8 => if x8 = 0 then lf_L_clashes_3 28 45 (nI v) (nI w) M fu (nI (i + 1)) else some 1 else lf_L_clashes_3 28 45 (nI v) (nI w) M fu (nI (i + 1))) else lf_L_clashes_3 28 45 (nI v) (nI w) M fu (nI (i + 1))) (fun y => y = zb_B (zp_b (zp_clash P v w))) := by
      intro z
      by_cases c : zo_N (zp_df P i) = nI v
      · have cd := dfv.mp c
        rw [if_pos c, if_pos rfl, zg_R (ze_e28 q), Option.bind_some, q.2.2.1.2.2.1.2.1.2, zd_at q.2.2.1.2.2.1.2.2.2 (show i < 52 by omega) (by omega), Option.bind_some, zb_hasBit (by omega), Option.bind_some]
        have key := zd.2 i (Or.inl hi) w (by omega)
        cases eb : bt (mm_I M 30 i) w with
        | true =>
          rw [if_neg (by decide)]
          obtain ⟨r, h1, h2⟩ := key.mp eb
          rw [(zp_sc_one hV hi).mp h1] at h2
          refine zh_some ?_
          rw [zp_b_iff.mpr ⟨i, hi, cd, z, h2⟩]
          rfl
        | false =>
          rw [if_pos (by decide)]
          refine next (fun r => ?_)
          rw [key.mpr ⟨_, (zp_sc_one hV hi).mpr rfl, r.2.2⟩] at eb
          cases eb
      · rw [if_neg c]
        exact next (fun r => c (dfv.mpr r.1))
    by_cases c1 : zp_k P i = 1
    · rw [if_pos (show nI (zp_k P i) = (1 : Int32) by rw [c1]; rfl), show (0 : Int32) = nI 0 from rfl, zr_operandAt q.2.1.1 q.2.1.2.1 hV hi (by omega), Option.bind_some]
      have eo : zp_op P i 0 = some (zp_l P i) := by unfold zp_op; rw [if_pos rfl, if_neg (by omega)]
      have hl : zp_l P i < 8 := zp_op_lt hV hi eo
      rw [eo]
      by_cases c2 : zp_l P i = w
      · rw [if_pos (show zo_N (some (zp_l P i)) = nI w by rw [c2]; rfl)]
        exact copied ⟨c1, c2⟩
      · rw [if_neg (show ¬ zo_N (some (zp_l P i)) = nI w from fun z => c2 ((nI_eq (by omega) (by omega)).mp z))]
        exact plain (fun z => c2 z.2)
    · rw [if_neg (show ¬ nI (zp_k P i) = (1 : Int32) from fun z => c1 ((nI_eq (b := 1) (by omega) (by omega)).mp z))]
      exact plain (fun z => c1 z.1)
  · intro fu _ g
    show zh_H (lb_L_clashes_3 28 45 (nI v) (nI w) M (lf_L_clashes_3 28 45 (nI v) (nI w) M fu) (nI (zp_ni P))) _
    unfold lb_L_clashes_3
    rw [zr_instr q.2.1.1 q.2.1.2.1, Option.bind_some, if_pos (nI_le (Nat.le_refl _) (by omega))]
    refine zh_some ?_
    rw [zp_bF (fun ⟨i, hi, z⟩ => g i hi z)]
    rfl
theorem zc_liveness2 (q : zc_Q M P) (z : mm_I M 28 0 = 1) : ff_D_liveness 1 M = some (28, M) := by
  unfold ff_D_liveness
  simp only [zq_gd (zc_e1 q), zg_R (zc_e1 q), q.1.2.2.2.2.2.2.2.2.2.1, Option.bind_some, zg_I (ze_e28 q), zq_jp]
  rw [if_neg (by rw [z]; decide)]
theorem zc_interfere (h : zc_Q M P) (a b : Int32) : zc_O (ff_D_interfere 1 a b M) M P (zr_c ["java/lang/IllegalArgumentException"] (zv_interfere P a b)) := by
  have hV := h.2.1.2.2
  unfold ff_D_interfere zv_interfere
  rw [zq_gd (zc_e1 h)]
  refine zc_rq h (zc_reqV a M) rfl (fun c => zc_rq h (zc_reqV b M) rfl (fun c2 => ?_))
  by_cases ab : a = b
  · rw [if_pos ab, if_pos ab]
    exact zc_ret (zf_rfl _ _) h
  rw [if_neg ab, if_neg ab]
  obtain ⟨hv, ea⟩ := zi_An c
  obtain ⟨hw, eb⟩ := zi_An c2
  clear ab
  generalize zi_n a = v at hv ea
  generalize zi_n b = w at hw eb
  subst ea eb
  obtain ⟨M', e, f, q, zd⟩ := zc_liveness h
  unfold bd_2
  rw [e, Option.bind_some]
  simp only [zg_R (zc_e1 q), Option.bind_some, q.1.2.1, ze_clashes q zd hv hw, zq_jp]
  cases e1 : zp_b (zp_clash P v w) with
  | true =>
    rw [if_neg (by decide), zp_b_iff.mpr (Or.inl (zp_b_iff.mp e1))]
    exact zc_ret (ze_zc f) q
  | false =>
    rw [if_pos (by decide)]
    obtain ⟨M2, e2, f2, q2, zd2⟩ := zc_liveness q
    rw [e2, Option.bind_some]
    simp only [zg_R (zc_e1 q2), Option.bind_some, q2.1.2.1, ze_clashes q2 zd2 hw hv]
    have n1 : ¬ zp_clash P v w := fun z => by rw [zp_b_iff.mpr z] at e1; cases e1
    cases e3 : zp_b (zp_clash P w v) with
    | true =>
      rw [if_neg (by decide), zp_b_iff.mpr (Or.inr (zp_b_iff.mp e3))]
      exact zc_ret (zf_tr (ze_zc f) (ze_zc f2)) q2
    | false =>
      have n2 : ¬ zp_clash P w v := fun z => by rw [zp_b_iff.mpr z] at e3; cases e3
      rw [if_pos (by decide), zp_bF (fun z => z.elim n1 n2)]
      exact zc_ret (zf_tr (ze_zc f) (ze_zc f2)) q2
end ZCI
section ZTI
variable {M : mm_T} {o : Nat} {P : zp_T}
theorem zt_isLiveIn (h : zt_S M o P) (a v : Int32) : zt_O (ff_M_isLiveIn 52 a v M) M (zv_isLiveIn P a v) := by
  have hV := h.2.2.2.2
  unfold ff_M_isLiveIn zv_isLiveIn
  rw [zq_gd (zt_e52 h)]
  refine zt_opB h (fun c h1 => ?_)
  refine zt_opV2 (k := 2) h (by omega) (fun c2 => ?_)
  obtain ⟨hb, ea⟩ := zi_An c
  obtain ⟨hv, ev⟩ := zi_An c2
  generalize zi_n a = b at hb ea
  generalize zi_n v = w at hv ev
  subst ea ev
  rw [zt_firstOf h1 (by omega), Option.bind_some]
  obtain ⟨d', N, e, f, g⟩ := zt_liveAt1 h1 hb (Nat.le_refl _) (hV.2.2.2.2.1 b hb) hv
  unfold bd_2
  rw [e, Option.bind_some]
  show zt_O ((zb_Z (zb_B d')).bind _) M _
  rw [zb_Zok, Option.bind_some, zp_fp_pl, zp_b_eq g]
  exact zt_retF f
theorem zt_isLiveOut (h : zt_S M o P) (a v : Int32) : zt_O (ff_M_isLiveOut 52 a v M) M (zv_isLiveOut P a v) := by
  have hV := h.2.2.2.2
  unfold ff_M_isLiveOut zv_isLiveOut
  rw [zq_gd (zt_e52 h)]
  refine zt_opB h (fun c h1 => ?_)
  refine zt_opV2 (k := 2) h (by omega) (fun c2 => ?_)
  obtain ⟨hb, ea⟩ := zi_An c
  obtain ⟨hv, ev⟩ := zi_An c2
  generalize zi_n a = b at hb ea
  generalize zi_n v = w at hv ev
  subst ea ev
  have hq : zt_Q (ff_M_isLiveBehind 52 (nI b) (nI w) (mm_sI M 52 4 0)) (mm_sI M 52 4 0) (∃ q, zp_sc P (40 + b) q ∧ zp_LV P w q) := by
    refine zt_Qiff ?_ (zt_liveBehind h1 hb hv)
    rw [zp_sc_end hV (fun q => zp_LV P w q)]
    constructor
    · rintro ⟨y, z1, z2⟩
      exact ⟨y, z1, (zp_LV_fp hV hv (zp_ed_lt hV z1).2).mpr z2⟩
    · rintro ⟨y, z1, z2⟩
      exact ⟨y, z1, (zp_LV_fp hV hv (zp_ed_lt hV z1).2).mp z2⟩
  obtain ⟨d', N, e, f, g⟩ := hq
  unfold bd_2
  rw [e, Option.bind_some]
  show zt_O ((zb_Z (zb_B d')).bind _) M _
  rw [zb_Zok, Option.bind_some, zp_b_eq g]
  exact zt_retF f
theorem zt_liveBefore (h : zt_S M o P) (a : Int32) : zt_O (ff_M_liveBefore 52 a M) M (zv_liveBefore P a) := by
  have hV := h.2.2.2.2
  unfold ff_M_liveBefore zv_liveBefore
  rw [zq_gd (zt_e52 h)]
  refine zt_opI h (fun c h1 => ?_)
  obtain ⟨hi, ea⟩ := zi_An c
  generalize zi_n a = i at hi ea
  subst ea
  have hbl := zp_bk_lt hV hi
  have hlo := zp_bk_lo hV hi
  have hhi := zp_bk_hi hV hi
  have epl : zp_pl P (zp_bk P i) i = i := by unfold zp_pl; rw [if_pos hhi]
  rw [zt_blockAt h1 hi, Option.bind_some]
  obtain ⟨N, e, f⟩ := zt_liveAt h1 hbl hlo (by omega)
  unfold bd_2
  rw [e, Option.bind_some, epl]
  exact zt_retF f
theorem zt_isDead (h : zt_S M o P) (a : Int32) : zt_O (ff_M_isDead 52 a M) M (zv_isDead P a) := by
  unfold ff_M_isDead zv_isDead
  rw [zq_gd (zt_e52 h)]
  refine zt_opI h (fun c h1 => ?_)
  obtain ⟨hi, ea⟩ := zi_An c
  generalize zi_n a = i at hi ea
  subst ea
  obtain ⟨d', N, e, f, g⟩ := zt_isDead0 h1 hi
  unfold bd_2
  rw [e, Option.bind_some]
  show zt_O ((zb_Z (zb_B d')).bind _) M _
  rw [zb_Zok, Option.bind_some, zp_b_eq g]
  exact zt_retF f
theorem zt_allDead (h : zt_S M o P) : ∃ N, ff_M_allDead 52 M = some (nI (zv_dead P), N) ∧ zf_F M N zt_A := by
  have hni := h.2.2.2.2.2.2.1
  suffices goal : zh_H (ff_M_allDead 52 M) (fun y => ∃ N, y = (nI (zv_dead P), N) ∧ zf_F M N zt_A) by
    obtain ⟨y, e, N, rfl, f⟩ := goal
    exact ⟨N, e, f⟩
  unfold ff_M_allDead
  rw [zq_gd (zt_e52 h)]
  refine zh_up (F := fun fu i (s : Int32 × mm_T) => lf_M_allDead_4 52 fu s.1 i s.2) (zp_ni P) (fun i s => s.1 = nI (fb_ct (fun i => zp_b (zp_DD P i)) i) ∧ zf_F M s.2 zt_A) ?_ ?_ fu_L 0 (0, M) (Nat.zero_le _) (by rw [zs_fuel]; omega) ⟨rfl, zf_rfl _ _⟩
  · intro fu i s hi ⟨g1, g2⟩ k
    obtain ⟨x, N⟩ := s
    simp only at g1 g2
    have hS : zt_S N o P := h.keepA g2 (fun a h => h)
    show zh_H (lb_M_allDead_4 52 (lf_M_allDead_4 52 fu) x (nI i) N) _
    unfold lb_M_allDead_4
    rw [zt_ni hS, Option.bind_some, if_neg (nI_ge hi (by omega))]
    obtain ⟨d, N', eN, fN, hd⟩ := zt_isDead0 hS hi
    refine zh_at2 eN ?_
    rw [zt_one, Option.bind_some, Option.bind_some, Option.bind_some, nI_1, g1, nI_add]
    have ee : fb_ct (fun i => zp_b (zp_DD P i)) i + (if d = true then 1 else 0) = fb_ct (fun i => zp_b (zp_DD P i)) (i + 1) := by
      rw [fb_ct_succ, zp_b_eq hd]
    rw [ee]
    exact k (_, N') ⟨rfl, zf_tr g2 fN⟩
  · intro fu s ⟨g1, g2⟩
    obtain ⟨x, N⟩ := s
    simp only at g1 g2
    have hS : zt_S N o P := h.keepA g2 (fun a h => h)
    show zh_H (lb_M_allDead_4 52 (lf_M_allDead_4 52 fu) x (nI (zp_ni P)) N) _
    unfold lb_M_allDead_4
    rw [zt_ni hS, Option.bind_some, if_pos (nI_le (Nat.le_refl _) (by omega)), g1]
    exact zh_some ⟨N, rfl, g2⟩
theorem zt_deadDefinitions (h : zt_S M o P) : zt_O (ff_M_deadDefinitions 52 M) M (0, nI (zv_dead P)) := by
  unfold ff_M_deadDefinitions
  rw [zq_gd (zt_e52 h), zp_I (zt_e52 h), Option.bind_some]
  obtain ⟨N, e, f⟩ := zt_allDead (h.thrown 0)
  unfold bd_2
  rw [e, Option.bind_some]
  exact zt_retF f
theorem zt_pressure (h : zt_S M o P) : zt_O (ff_M_pressure 52 M) M (0, nI (zv_pressure P)) := by
  have hV := h.2.2.2.2
  have hnb := hV.2.1
  have hni := hV.2.2.1
  have hle : ∀ p, zp_ln P p ≤ 8 := fun p => fb_ct_le _ _
  unfold ff_M_pressure
  rw [zq_gd (zt_e52 h), zp_I (zt_e52 h), Option.bind_some]
  have h1 := h.thrown 0
  suffices goal : zh_H (lf_M_pressure_9 52 fu_L 0 0 (mm_sI M 52 4 0)) (fun y => ∃ N, y = (nI (zv_pressure P), N) ∧ zf_F (mm_sI M 52 4 0) N zt_A) by
    obtain ⟨y, e, N, rfl, f⟩ := goal
    rw [e]
    exact zt_retF f
  generalize mm_sI M 52 4 0 = M0 at h1 ⊢
  refine zh_up (F := fun fu i (s : Int32 × mm_T) => lf_M_pressure_9 52 fu s.1 i s.2) (zp_nb P) (fun b s => ∃ r, r ≤ zv_pressure P ∧ s.1 = nI r ∧ zf_F M0 s.2 zt_A ∧ ∀ c k, c < b → zp_st P c ≤ k → k ≤ zp_st P (c + 1) → zp_ln P (zp_pl P c k) ≤ r) ?_ ?_ fu_L 0 (0, M0) (Nat.zero_le _) (by rw [zs_fuel]; omega) ⟨0, Nat.zero_le _, rfl, zf_rfl _ _, fun c k hc => absurd hc (Nat.not_lt_zero _)⟩
  · intro fu b s hb ⟨r, g0, g1, g2, g3⟩ k
    obtain ⟨x, N⟩ := s
    simp only at g1 g2
    have hS : zt_S N o P := h1.keepA g2 (fun a h => h)
    have hse := hV.2.2.2.2.1 b hb
    have hsn := zp_st_le hV (b := b + 1) (by omega)
    show zh_H (lb_M_pressure_9 52 (lf_M_pressure_9 52 fu) x (nI b) N) _
    unfold lb_M_pressure_9
    rw [zt_nb hS, Option.bind_some, if_neg (nI_ge hb (by omega)), zt_firstOf hS (by omega), Option.bind_some]
    simp only [Option.bind_some, nI_1]
    refine zh_up (F := fun fu j (s : Int32 × mm_T) => lf_M_pressure_24 _ 52 (nI b) fu s.1 j s.2) (zp_st P (b + 1) + 1) (fun j s => zp_st P b ≤ j ∧ ∃ r, r ≤ zv_pressure P ∧ s.1 = nI r ∧ zf_F M0 s.2 zt_A ∧ (∀ c k, c < b → zp_st P c ≤ k → k ≤ zp_st P (c + 1) → zp_ln P (zp_pl P c k) ≤ r) ∧ ∀ k, zp_st P b ≤ k → k < j → zp_ln P (zp_pl P b k) ≤ r) ?_ ?_ fu_L (zp_st P b) (x, N) (by omega) (by rw [zs_fuel]; omega) ⟨Nat.le_refl _, r, g0, g1, g2, g3, fun k z1 z2 => by omega⟩
    · intro fu' j s hj ⟨p0, r', q0, p1, p2, p3, p4⟩ k'
      obtain ⟨x', N'⟩ := s
      simp only at p1 p2
      have hS' : zt_S N' o P := h1.keepA p2 (fun a h => h)
      show zh_H (lb_M_pressure_24 _ 52 (nI b) (lf_M_pressure_24 _ 52 (nI b) fu') x' (nI j) N') _
      unfold lb_M_pressure_24
      rw [zt_endOf hS' hb, Option.bind_some, if_neg (show ¬ nI (zp_st P (b + 1)) < nI j from fun z => by have := (nI_ltI (by omega) (by omega)).mp z; omega)]
      obtain ⟨N2, e2, f2⟩ := zt_liveAt hS' hb p0 (show j ≤ zp_st P (b + 1) by omega)
      refine zh_at2 e2 ?_
      have l8 := hle (zp_pl P b j)
      have pt := (zp_pl_all hV hb p0 (show j ≤ zp_st P (b + 1) by omega)).1
      have top : zp_ln P (zp_pl P b j) ≤ zv_pressure P := zp_max_ge (zp_pt_lt hV pt)
      have p8 : zv_pressure P ≤ 8 := zp_max_le (fun k _ => hle k)
      rw [p1, zi_max (by omega) (by omega), Option.bind_some, Option.bind_some, nI_1]
      refine k' (_, N2) ⟨by omega, max r' (zp_ln P (zp_pl P b j)), by omega, rfl, zf_tr p2 f2, fun c k z1 z2 z3 => by have := p3 c k z1 z2 z3; omega, fun k z1 z2 => ?_⟩
      rcases Nat.lt_or_ge k j with z | z
      · have := p4 k z1 z; omega
      · rw [show k = j by omega]; omega
    · intro fu' s ⟨p0, r', q0, p1, p2, p3, p4⟩
      obtain ⟨x', N'⟩ := s
      simp only at p1 p2
      have hS' : zt_S N' o P := h1.keepA p2 (fun a h => h)
      show zh_H (lb_M_pressure_24 _ 52 (nI b) (lf_M_pressure_24 _ 52 (nI b) fu') x' (nI (zp_st P (b + 1) + 1)) N') _
      unfold lb_M_pressure_24
      rw [zt_endOf hS' hb, Option.bind_some, if_pos ((nI_ltI (by omega) (by omega)).mpr (by omega))]
      refine k (x', N') ⟨r', q0, p1, p2, fun c kk z1 z2 z3 => ?_⟩
      rcases Nat.lt_or_ge c b with z | z
      · exact p3 c kk z z2 z3
      · have cb : c = b := by omega
        rw [cb] at z2 z3 ⊢
        exact p4 kk z2 (by omega)
  · intro fu s ⟨r, g0, g1, g2, g3⟩
    obtain ⟨x, N⟩ := s
    simp only at g1 g2
    have hS : zt_S N o P := h1.keepA g2 (fun a h => h)
    show zh_H (lb_M_pressure_9 52 (lf_M_pressure_9 52 fu) x (nI (zp_nb P)) N) _
    unfold lb_M_pressure_9
    rw [zt_nb hS, Option.bind_some, if_pos (nI_le (Nat.le_refl _) (by omega)), g1]
    have er : r = zv_pressure P := by
      refine Nat.le_antisymm g0 (zp_max_le (fun p hp => ?_))
      by_cases c : zp_pt P p
      · obtain ⟨a1, a2, a3, a4⟩ := zp_pt_all hV c
        have := g3 _ _ a1 a2 a3
        rw [a4] at this
        exact this
      · have : zp_ln P p = 0 := fb_ct_zero.mpr (fun v _ => zp_bF (fun z => c (zp_LV_pt z)))
        omega
    rw [er]
    exact zh_some ⟨N, rfl, g2⟩
end ZTI
