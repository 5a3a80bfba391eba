/-! ===== answers on reaching definitions, both sides ===== -/
noncomputable def zv_reaches (P : zp_T) (a b : Int32) : Nat × Int32 := if zi_A (zp_ni P) a then (if zi_A (zp_nb P) b then (0, zb_B (zp_b (zp_RD P (zi_n a) (zp_fp P (zi_n b))))) else (1, 0)) else (1, 0)
noncomputable def zv_reachingDefinitions (P : zp_T) (a v : Int32) : Nat × Int32 := if zi_A (zp_nb P) a then (if zi_A 8 v then (0, nI (fb_ct (fun d => zp_b (zp_df P d = some (zi_n v) ∧ zp_RD P d (zp_fp P (zi_n a)))) (zp_ni P))) else (2, 0)) else (1, 0)
noncomputable def zv_isInitialReaching (P : zp_T) (a v : Int32) : Nat × Int32 := if zi_A (zp_nb P) a then (if zi_A 8 v then (0, zb_B (zp_b (zp_RI P (zi_n v) (zp_fp P (zi_n a))))) else (2, 0)) else (1, 0)
section ZCE
variable {M : mm_T} {P : zp_T}
theorem zd_zc {M M' : mm_T} (f : zf_F M M' zd_A) : zf_F M M' zc_A := zf_mono f (fun a q => by unfold zd_A at q; unfold zc_A; omega)
theorem zp_fp52 (hV : zp_V P) {b : Nat} (hb : b < zp_nb P) : zp_fp P b < 52 := zp_pt_lt hV (zp_fp_pt hV hb)
theorem zc_reaches (h : zc_Q M P) (a a2 : Int32) : zc_O (ff_D_reaches 1 a a2 M) M P (zr_c ["java/lang/IndexOutOfBoundsException"] (zv_reaches P a a2)) := by
  have hV := h.2.1.2.2
  have hni := hV.2.2.1
  unfold ff_D_reaches zv_reaches
  rw [zq_gd (zc_e1 h)]
  refine zc_rq h (zc_reqI h a) rfl (fun c => zc_rq h (zc_reqB h a2) rfl (fun c2 => ?_))
  obtain ⟨hb, ea⟩ := zi_An c
  obtain ⟨hb2, ea2⟩ := zi_An c2
  generalize zi_n a = d at hb ea
  generalize zi_n a2 = b at hb2 ea2
  subst ea ea2
  obtain ⟨M', e, f, q, zd⟩ := zc_reaching h
  have e24 : (mm_k M' 24).1 = 8 := by rw [q.2.2.1.2.1.1]
  have h52 := zp_fp52 hV hb2
  unfold bd_2
  rw [e, Option.bind_some]
  unfold ff_R_definitionsAt_a
  simp only [zg_R (zc_e1 q), Option.bind_some, q.1.2.1]
  rw [zr_firstPoint q.2.1.1 q.2.1.2.1 hV hb2, Option.bind_some]
  simp only [zq_gd e24, zg_R e24, Option.bind_some, q.2.2.1.2.1.2.1.1]
  rw [zd_atL q.2.2.1.2.1.2.2.1 h52 (by omega), Option.bind_some, Option.bind_some, zl_hasBit (by omega), Option.bind_some, zb_Zok, Option.bind_some, zp_b_eq (zd.1 _ h52 d (by omega))]
  exact zc_ret (zd_zc f) q
theorem zc_reachingDefinitions (h : zc_Q M P) (a v : Int32) : zc_O (ff_D_reachingDefinitions 1 a v M) M P (zr_c ["java/lang/IndexOutOfBoundsException", "java/lang/IllegalArgumentException"] (zv_reachingDefinitions P a v)) := by
  have hV := h.2.1.2.2
  have hni := hV.2.2.1
  unfold ff_D_reachingDefinitions zv_reachingDefinitions
  rw [zq_gd (zc_e1 h)]
  refine zc_rq h (zc_reqB h a) rfl (fun c => zc_rq h (zc_reqV v M) rfl (fun c2 => ?_))
  obtain ⟨hb, ea⟩ := zi_An c
  obtain ⟨hv, ev⟩ := zi_An c2
  generalize zi_n a = b at hb ea
  generalize zi_n v = w at hv ev
  subst ea ev
  obtain ⟨M', e, f, q, zd⟩ := zc_reaching h
  have e24 : (mm_k M' 24).1 = 8 := by rw [q.2.2.1.2.1.1]
  have h52 := zp_fp52 hV hb
  unfold bd_2
  rw [e, Option.bind_some]
  unfold ff_R_definitionsAt_b
  simp only [zg_R (zc_e1 q), Option.bind_some, q.1.2.1]
  rw [zr_firstPoint q.2.1.1 q.2.1.2.1 hV hb, Option.bind_some]
  simp only [zq_gd e24, zg_R e24, Option.bind_some, q.2.2.1.2.1.2.1.1, q.2.2.1.2.1.2.1.2.2]
  rw [zd_atL q.2.2.1.2.1.2.2.1 h52 (by omega), Option.bind_some, zd_atL q.2.2.1.2.1.2.2.2.2 hv (by omega), Option.bind_some, Option.bind_some, zq_J, Option.bind_some]
  have eq : fb_ct (bl (mm_J M' 25 (zp_fp P b) &&& mm_J M' 27 w)) 64 = fb_ct (fun d => zp_b (zp_df P d = some w ∧ zp_RD P d (zp_fp P b))) (zp_ni P) := by
    rw [fb_ct_cong (q := fun d => zp_b (zp_df P d = some w ∧ zp_RD P d (zp_fp P b))) (fun d hd => ?_)]
    · exact zs_cut (by omega) (fun d hd => zp_bF (fun z => by have := z.2.1; omega))
    · refine zp_b_eq ?_
      rw [zl_and, zd.2.2 w hv d hd, Bool.and_eq_true, Bool.and_eq_true, decide_eq_true_eq, decide_eq_true_eq, zd.1 _ h52 d hd]
      exact ⟨fun z => ⟨z.2.2, z.1⟩, fun z => ⟨z.2, z.2.1, z.1⟩⟩
  rw [eq]
  exact zc_ret (zd_zc f) q
theorem zc_isInitialReaching (h : zc_Q M P) (a v : Int32) : zc_O (ff_D_isInitialReaching 1 a v M) M P (zr_c ["java/lang/IndexOutOfBoundsException", "java/lang/IllegalArgumentException"] (zv_isInitialReaching P a v)) := by
  have hV := h.2.1.2.2
  have hni := hV.2.2.1
  unfold ff_D_isInitialReaching zv_isInitialReaching
  rw [zq_gd (zc_e1 h)]
  refine zc_rq h (zc_reqB h a) rfl (fun c => zc_rq h (zc_reqV v M) rfl (fun c2 => ?_))
  obtain ⟨hb, ea⟩ := zi_An c
  obtain ⟨hv, ev⟩ := zi_An c2
  generalize zi_n a = b at hb ea
  generalize zi_n v = w at hv ev
  subst ea ev
  obtain ⟨M', e, f, q, zd⟩ := zc_reaching h
  have e24 : (mm_k M' 24).1 = 8 := by rw [q.2.2.1.2.1.1]
  have h52 := zp_fp52 hV hb
  unfold bd_2
  rw [e, Option.bind_some]
  unfold ff_R_initialsAt
  simp only [zg_R (zc_e1 q), Option.bind_some, q.1.2.1]
  rw [zr_firstPoint q.2.1.1 q.2.1.2.1 hV hb, Option.bind_some]
  simp only [zq_gd e24, zg_R e24, Option.bind_some, q.2.2.1.2.1.2.1.2.1]
  rw [zd_at q.2.2.1.2.1.2.2.2.1 h52 (by omega), Option.bind_some, Option.bind_some, zb_hasBit (by omega), Option.bind_some, zb_Zok, Option.bind_some, zp_b_eq (zd.2.1 _ h52 w (by omega))]
  exact zc_ret (zd_zc f) q
end ZCE
section ZTE
variable {M : mm_T} {o : Nat} {P : zp_T}
theorem zp_RD_start (hV : zp_V P) {d b : Nat} (hd : d < zp_ni P) (hb : b < zp_nb P) : (∃ v, zp_df P d = some v ∧ ¬ zp_dw P (d + 1) (zp_st P (zp_bk P d + 1)) v ∧ zs_R (fun y => zp_ed P (zp_bk P d) y = true) (zw_E P (some v) none) b) ↔ zp_RD P d (zp_fp P b) := by
  constructor
  · rintro ⟨v, hv, n, r⟩
    exact (zp_RD_iff hV hd hv).mpr (Or.inr ⟨n, zp_RS_fp hV hb r⟩)
  · intro q
    cases e : zp_df P d with
    | none => exact absurd e q.2.1
    | some v =>
      obtain ⟨a1, a2, a3⟩ := zp_pl_all hV hb (Nat.le_refl _) (hV.2.2.2.2.1 b hb)
      rw [← zp_fp_pl] at a1 a2 a3
      rcases (zp_RD_iff hV hd e).mp q with ⟨_, z2, z3, _⟩ | ⟨n, r⟩
      · rw [a2] at z2
        rw [a3] at z3
        have := zp_bk_lo hV hd
        rw [← z2] at this
        omega
      · obtain ⟨_, r2, _⟩ := r
        rw [a2] at r2
        exact ⟨v, rfl, n, r2⟩
theorem zp_RI_start (hV : zp_V P) {v b : Nat} (hv : v < 8) (hb : b < zp_nb P) : zs_R (fun x => x = 0) (zw_E P (some v) none) b ↔ zp_RI P v (zp_fp P b) := by
  rw [zp_RI_iff hV]
  constructor
  · exact fun r => ⟨hv, zp_RS_fp hV hb r⟩
  · rintro ⟨_, _, r, _⟩
    obtain ⟨a1, a2, a3⟩ := zp_pl_all hV hb (Nat.le_refl _) (hV.2.2.2.2.1 b hb)
    rw [← zp_fp_pl] at a2
    rw [a2] at r
    exact r
theorem zt_starts (h : zt_S M o P) {d b : Nat} (hd : d < zp_ni P) (hb : b < zp_nb P) : zt_Q (ff_M_reachesStart 52 (nI d) (nI b) M) M (zp_RD P d (zp_fp P b)) := zt_Qiff (zp_RD_start h.2.2.2.2 hd hb) (zt_reachesStart h hd hb)
theorem zt_reaches (h : zt_S M o P) (a a2 : Int32) : zt_O (ff_M_reaches 52 a a2 M) M (zv_reaches P a a2) := by
  unfold ff_M_reaches zv_reaches
  rw [zq_gd (zt_e52 h)]
  refine zt_opI h (fun c h1 => ?_)
  refine zt_opB2 h (fun c2 => ?_)
  obtain ⟨hb, ea⟩ := zi_An c
  obtain ⟨hb2, ea2⟩ := zi_An c2
  generalize zi_n a = d at hb ea
  generalize zi_n a2 = b at hb2 ea2
  subst ea ea2
  obtain ⟨d', N, e, f, g⟩ := zt_starts h1 hb hb2
  unfold bd_2
  rw [e, Option.bind_some]
  show zt_O ((zb_Z (zb_B d')).bind _) M _
  rw [zb_Zok, Option.bind_some, zp_b_eq g]
  exact zt_retF f
theorem zt_isInitialReaching (h : zt_S M o P) (a v : Int32) : zt_O (ff_M_isInitialReaching 52 a v M) M (zv_isInitialReaching P a v) := by
  have hnb := h.2.2.2.2.2.1
  unfold ff_M_isInitialReaching zv_isInitialReaching
  rw [zq_gd (zt_e52 h)]
  refine zt_opB h (fun c h1 => ?_)
  refine zt_opV2 (k := 2) h (by omega) (fun c2 => ?_)
  obtain ⟨hb, ea⟩ := zi_An c
  obtain ⟨hv, ev⟩ := zi_An c2
  generalize zi_n a = b at hb ea
  generalize zi_n v = w at hv ev
  subst ea ev
  obtain ⟨d', N, e, f, g⟩ := zt_Qiff (zp_RI_start h.2.2.2.2 hv hb) (zt_isFirstAt h1 (show b < 12 by omega) hv)
  unfold bd_2
  rw [e, Option.bind_some]
  show zt_O ((zb_Z (zb_B d')).bind _) M _
  rw [zb_Zok, Option.bind_some, zp_b_eq g]
  exact zt_retF f
theorem zt_reachingDefinitions (h : zt_S M o P) (a v : Int32) : zt_O (ff_M_reachingDefinitions 52 a v M) M (zv_reachingDefinitions P a v) := by
  have hV := h.2.2.2.2
  have hni := hV.2.2.1
  unfold ff_M_reachingDefinitions zv_reachingDefinitions
  rw [zq_gd (zt_e52 h)]
  refine zt_opB h (fun c h1 => ?_)
  refine zt_opV2 (k := 2) h (by omega) (fun c2 => ?_)
  obtain ⟨hb, ea⟩ := zi_An c
  obtain ⟨hv, ev⟩ := zi_An c2
  generalize zi_n a = b at hb ea
  generalize zi_n v = w at hv ev
  subst ea ev
  suffices goal : zh_H (lf_M_reachingDefinitions_24 52 (nI b) (nI w) fu_L 0 0 (mm_sI M 52 4 0)) (fun y => ∃ N, y = (nI (fb_ct (fun d => zp_b (zp_df P d = some w ∧ zp_RD P d (zp_fp P b))) (zp_ni P)), N) ∧ zf_F (mm_sI M 52 4 0) N zt_A) by
    obtain ⟨y, e, N, rfl, f⟩ := goal
    rw [e]
    exact zt_retF f
  generalize mm_sI M 52 4 0 = M0 at h1 ⊢
  refine zh_up (F := fun fu i (s : Int32 × mm_T) => lf_M_reachingDefinitions_24 52 (nI b) (nI w) fu s.1 i s.2) (zp_ni P) (fun i s => s.1 = nI (fb_ct (fun d => zp_b (zp_df P d = some w ∧ zp_RD P d (zp_fp P b))) i) ∧ zf_F M0 s.2 zt_A) ?_ ?_ fu_L 0 (0, M0) (Nat.zero_le _) (by rw [zs_fuel]; omega) ⟨rfl, zf_rfl _ _⟩
  · intro fu i s hi ⟨g1, g2⟩ k
    obtain ⟨x, N⟩ := s
    simp only at g1 g2
    have hS : zt_S N o P := h1.keepA g2 (fun a h => h)
    show zh_H (lb_M_reachingDefinitions_24 52 (nI b) (nI w) (lf_M_reachingDefinitions_24 52 (nI b) (nI w) fu) x (nI i) N) _
    unfold lb_M_reachingDefinitions_24
    rw [zt_ni hS, Option.bind_some, if_neg (nI_ge hi (by omega)), zt_defines hS hi (by omega), Option.bind_some, zq_jp, zq_jp]
    have next : ∀ (N2 : mm_T) (d : Bool), zf_F M0 N2 zt_A → (d = true ↔ (zp_df P i = some w ∧ zp_RD P i (zp_fp P b))) → zh_H ((ff_M_one (zb_B d) N2).bind fun x6 => (some (x + x6)).bind fun x7 => (some (nI i + 1)).bind fun x8 => lf_M_reachingDefinitions_24 52 (nI b) (nI w) fu x7 x8 N2) (fun y => ∃ N, y = (nI (fb_ct (fun d => zp_b (zp_df P d = some w ∧ zp_RD P d (zp_fp P b))) (zp_ni P)), N) ∧ zf_F M0 N zt_A) := by
      intro N2 d f2 hd
      rw [zt_one, Option.bind_some, Option.bind_some, Option.bind_some, nI_1, g1, nI_add]
      have ee : fb_ct (fun d => zp_b (zp_df P d = some w ∧ zp_RD P d (zp_fp P b))) i + (if d = true then 1 else 0) = fb_ct (fun d => zp_b (zp_df P d = some w ∧ zp_RD P d (zp_fp P b))) (i + 1) := by
        rw [fb_ct_succ, zp_b_eq hd]
      rw [ee]
      exact k (_, N2) ⟨rfl, f2⟩
    by_cases cd : zp_df P i = some w
    · rw [decide_eq_true cd, if_neg (by decide)]
      refine zt_Qbd (zt_starts hS hi hb) (fun N2 f2 q2 => ?_) (fun N2 f2 q2 => ?_)
      · rw [if_neg (by decide)]
        exact next N2 true (zf_tr g2 f2) ⟨fun _ => ⟨cd, q2⟩, fun _ => rfl⟩
      · rw [if_pos rfl]
        exact next N2 false (zf_tr g2 f2) ⟨(by intro z; cases z), fun z => absurd z.2 q2⟩
    · rw [decide_eq_false cd, if_pos (by decide)]
      exact next N false g2 ⟨(by intro z; cases z), fun z => absurd z.1 cd⟩
  · intro fu s ⟨g1, g2⟩
    obtain ⟨x, N⟩ := s
    simp only at g1 g2
    have hS : zt_S N o P := h1.keepA g2 (fun a h => h)
    show zh_H (lb_M_reachingDefinitions_24 52 (nI b) (nI w) (lf_M_reachingDefinitions_24 52 (nI b) (nI w) fu) x (nI (zp_ni P)) N) _
    unfold lb_M_reachingDefinitions_24
    rw [zt_ni hS, Option.bind_some, if_pos (nI_le (Nat.le_refl _) (by omega)), g1]
    exact zh_some ⟨N, rfl, g2⟩
end ZTE
