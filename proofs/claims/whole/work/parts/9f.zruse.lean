/-! ===== answers on uses and on an operand's only definition, both sides ===== -/
theorem zs_cutB {p : Nat → Bool} {n m : Nat} (h : n ≤ m) (hp : ∀ k, n ≤ k → k < m → p k = false) : fb_ct p m = fb_ct p n := by
  obtain ⟨d, rfl⟩ : ∃ d, m = n + d := ⟨m - n, by omega⟩
  rw [fb_ct_split, fb_ct_zero.mpr (fun k hk => hp (n + k) (by omega) (by omega)), Nat.add_zero]
theorem zs_pts {P : zp_T} (hV : zp_V P) {f : Nat → Bool} (hf : ∀ p, ¬ zp_pt P p → f p = false) : fb_ct f 52 = fb_ct f (zp_ni P) + fb_ct (fun b => f (40 + b)) (zp_nb P) := by
  have hnb := hV.2.1
  have hni := hV.2.2.1
  rw [show (52 : Nat) = 40 + 12 from rfl, fb_ct_split, zs_cutB hni (fun k h1 h2 => hf k (by unfold zp_pt; omega)), zs_cutB (p := fun b => f (40 + b)) hnb (fun k h1 h2 => hf (40 + k) (by unfold zp_pt; omega))]
noncomputable def zp_uc (P : zp_T) (d p : Nat) : Bool := zp_b (∃ v, zp_df P d = some v ∧ zp_RD P d p ∧ zp_us P p v = true)
noncomputable def zv_usesOf (P : zp_T) (a : Int32) : Nat × Int32 := if zi_A (zp_ni P) a then (0, nI (fb_ct (zp_uc P (zi_n a)) 52)) else (1, 0)
theorem zp_uc_iff {P : zp_T} {d p v : Nat} (h : zp_df P d = some v) : zp_uc P d p = true ↔ zp_RD P d p ∧ zp_us P p v = true := by
  unfold zp_uc
  rw [zp_b_iff]
  constructor
  · rintro ⟨w, h1, h2⟩
    rw [h] at h1
    cases h1
    exact h2
  · exact fun q => ⟨v, h, q⟩
theorem zp_uc_none {P : zp_T} {d : Nat} (h : zp_df P d = none) (p : Nat) : zp_uc P d p = false := zp_bF (fun ⟨w, h1, _⟩ => by rw [h] at h1; cases h1)
theorem zp_uc_pt {P : zp_T} (hV : zp_V P) {d p : Nat} (h : ¬ zp_pt P p) : zp_uc P d p = false := zp_bF (fun ⟨w, _, h1, _⟩ => h (zp_RD_pt hV h1))
section ZCF
variable {M : mm_T} {P : zp_T}
theorem zd_countUses (q : zc_Q M P) (zd : zd_R M P) {d : Nat} (hd : d < zp_ni P) : ff_R_countUses 24 45 (nI d) M = some (nI (fb_ct (zp_uc P d) 52)) := by
  have hV := q.2.1.2.2
  have hni := hV.2.2.1
  have e24 : (mm_k M 24).1 = 8 := by rw [q.2.2.1.2.1.1]
  unfold ff_R_countUses
  rw [zq_gd e24, zr_definedAt q.2.1.1 q.2.1.2.1 hV (p := d) (Or.inl hd), Option.bind_some]
  cases e : zp_df P d with
  | none =>
    rw [fb_ct_zero.mpr (fun k _ => zp_uc_none e k)]
    obtain ⟨g, hg⟩ : ∃ g, fu_L = g + 1 := ⟨999999, rfl⟩
    rw [hg]
    show lb_R_countUses_12 24 45 (nI d) (zo_N none) M (lf_R_countUses_12 24 45 (nI d) (zo_N none) M g) 0 0 = _
    unfold lb_R_countUses_12
    rw [if_pos (show zo_N none = -1 from rfl)]
    rfl
  | some v =>
    have hv : v < 8 := zp_df_lt hV (Or.inl hd) e
    have hv1 : ¬ zo_N (some v) = -1 := zi_n1 (by omega)
    refine zh_is (zh_up (F := fun fu i (x : Int32) => lf_R_countUses_12 24 45 (nI d) (zo_N (some v)) M fu x i) (Q := fun y => y = nI (fb_ct (zp_uc P d) 52)) 52 (fun i x => x = nI (fb_ct (zp_uc P d) i)) ?_ ?_ fu_L 0 0 (Nat.zero_le _) (by rw [zs_fuel]; omega) rfl)
    · intro fu i x hi hx k
      show zh_H (lb_R_countUses_12 24 45 (nI d) (zo_N (some v)) M (lf_R_countUses_12 24 45 (nI d) (zo_N (some v)) M fu) x (nI i)) _
      unfold lb_R_countUses_12
      rw [if_neg hv1, if_neg (show ¬ (52 : Int32) ≤ nI i from nI_ge (b := 52) hi (by omega)), zg_R e24, Option.bind_some, q.2.2.1.2.1.2.1.1, zd_atL q.2.2.1.2.1.2.2.1 hi (by omega), Option.bind_some, zl_hasBit (by omega), Option.bind_some, zq_jp]
      have next : ∀ b : Bool, (b = true ↔ zp_uc P d i = true) → ∀ y : Int32, y = nI (fb_ct (zp_uc P d) i + (if b = true then 1 else 0)) → zh_H ((some (nI i + 1)).bind fun x6 => lf_R_countUses_12 24 45 (nI d) (zo_N (some v)) M fu y x6) (fun y => y = nI (fb_ct (zp_uc P d) 52)) := by
        intro b hb y hy
        rw [Option.bind_some, nI_1]
        refine k y ?_
        rw [hy, fb_ct_succ, Bool.eq_iff_iff.mpr hb]
      cases eb : bl (mm_J M 25 i) d with
      | false =>
        rw [if_pos (by decide)]
        refine next false ⟨(by intro z; cases z), fun z => ?_⟩ x hx
        have := (zd.1 i hi d (by omega)).mpr ((zp_uc_iff e).mp z).1
        rw [this] at eb
        cases eb
      | true =>
        have hr := (zd.1 i hi d (by omega)).mp eb
        rw [if_neg (by decide)]
        obtain ⟨y, ey, hy⟩ := zr_usedAt q.2.1.1 q.2.1.2.1 hV (zp_RD_pt hV hr)
        rw [ey, Option.bind_some, show zo_N (some v) = nI v from rfl, zb_hasBit (by omega), Option.bind_some, hy v (by omega)]
        cases eu : zp_us P i v with
        | false =>
          rw [if_pos (by decide)]
          refine next false ⟨(by intro z; cases z), fun z => ?_⟩ x hx
          have := ((zp_uc_iff e).mp z).2
          rw [this] at eu
          cases eu
        | true =>
          rw [if_neg (by decide), Option.bind_some, hx]
          exact next true ⟨fun _ => (zp_uc_iff e).mpr ⟨hr, eu⟩, fun _ => rfl⟩ (nI (fb_ct (zp_uc P d) i) + 1) (by rw [nI_1]; rfl)
    · intro fu x hx
      show zh_H (lb_R_countUses_12 24 45 (nI d) (zo_N (some v)) M (lf_R_countUses_12 24 45 (nI d) (zo_N (some v)) M fu) x (nI 52)) _
      unfold lb_R_countUses_12
      rw [if_neg hv1, if_pos (show (52 : Int32) ≤ nI 52 from nI_le (a := 52) (Nat.le_refl _) (by omega)), hx]
      exact zh_some rfl
theorem zc_usesOf (h : zc_Q M P) (a : Int32) : zc_O (ff_D_usesOf 1 a M) M P (zr_c ["java/lang/IndexOutOfBoundsException"] (zv_usesOf P a)) := by
  unfold ff_D_usesOf zv_usesOf
  rw [zq_gd (zc_e1 h)]
  refine zc_rq h (zc_reqI h a) rfl (fun c => ?_)
  obtain ⟨hb, ea⟩ := zi_An c
  generalize zi_n a = d at hb ea
  subst ea
  obtain ⟨M', e, f, q, zd⟩ := zc_reaching h
  unfold bd_2
  rw [e, Option.bind_some]
  show zc_O ((gf_R M' 1 10 0).bind _) M P _
  rw [zg_R (zc_e1 q), Option.bind_some, q.1.2.1]
  show zc_O ((ff_R_countUses 24 45 (nI d) M').bind _) M P _
  rw [zd_countUses q zd hb, Option.bind_some]
  exact zc_ret (zd_zc f) q
end ZCF
section ZTF
variable {M : mm_T} {o : Nat} {P : zp_T}
theorem zt_usesOf (h : zt_S M o P) (a : Int32) : zt_O (ff_M_usesOf 52 a M) M (zv_usesOf P a) := by
  have hV := h.2.2.2.2
  have hnb := hV.2.1
  have hni := hV.2.2.1
  unfold ff_M_usesOf zv_usesOf
  rw [zq_gd (zt_e52 h)]
  refine zt_opI h (fun c h1 => ?_)
  obtain ⟨hd, ea⟩ := zi_An c
  generalize zi_n a = d at hd ea
  subst ea
  rw [zt_isDef h1 hd, Option.bind_some]
  have hdf := zt_df h1 hd
  by_cases ck : zp_k P d = 3
  · rw [if_pos (by simp [ck, zb_B])]
    rw [if_neg (fun q => q ck)] at hdf
    rw [fb_ct_zero.mpr (fun k _ => zp_uc_none hdf k)]
    exact zt_retF (zf_rfl _ _)
  rw [if_neg (by simp [ck, zb_B]), zt_t h1 hd, Option.bind_some]
  rw [if_pos ck] at hdf
  have hv : zp_t P d < 8 := zp_df_lt hV (Or.inl hd) hdf
  generalize zp_t P d = v at hdf hv
  suffices goal : zh_H (lf_M_usesOf_32 52 (nI d) (nI v) fu_L 0 0 (mm_sI M 52 4 0)) (fun y => ∃ N, y = (nI (fb_ct (zp_uc P d) 52), N) ∧ zf_F (mm_sI M 52 4 0) N zt_A) by
    obtain ⟨y, e, N, rfl, f⟩ := goal
    rw [e]
    exact zt_retF f
  generalize mm_sI M 52 4 0 = M0 at h1 ⊢
  refine zh_up (F := fun fu i (s : Int32 × mm_T) => lf_M_usesOf_32 52 (nI d) (nI v) fu s.1 i s.2) (zp_nb P) (fun b s => s.1 = nI (fb_ct (zp_uc P d) (zp_st P b) + fb_ct (fun b => zp_uc P d (40 + b)) b) ∧ zf_F M0 s.2 zt_A) ?_ ?_ fu_L 0 (0, M0) (Nat.zero_le _) (by rw [zs_fuel]; omega) ⟨by rw [hV.2.2.2.1]; rfl, zf_rfl _ _⟩
  · intro fu b s hb ⟨g1, g2⟩ k
    obtain ⟨x, N⟩ := s
    simp only at g1 g2
    have hS : zt_S N o P := h1.keepA g2 (fun a h => h)
    have hse := hV.2.2.2.2.1 b hb
    have hsn := zp_st_le hV (b := b + 1) (by omega)
    show zh_H (lb_M_usesOf_32 52 (nI d) (nI v) (lf_M_usesOf_32 52 (nI d) (nI v) fu) x (nI b) N) _
    unfold lb_M_usesOf_32
    rw [zt_nb hS, Option.bind_some, if_neg (nI_ge hb (by omega)), zt_firstOf hS (by omega), Option.bind_some]
    simp only [zq_jp]
    refine zh_up (F := fun fu j (s : Int32 × mm_T) => lf_M_usesOf_50 _ 52 (nI d) (nI v) (nI b) fu s.1 j s.2) (zp_st P (b + 1)) (fun j s => zp_st P b ≤ j ∧ s.1 = nI (fb_ct (zp_uc P d) j + fb_ct (fun b => zp_uc P d (40 + b)) b) ∧ zf_F M0 s.2 zt_A) ?_ ?_ fu_L (zp_st P b) (x, N) hse (by rw [zs_fuel]; omega) ⟨Nat.le_refl _, g1, g2⟩
    · intro fu' j s hj ⟨p0, p1, p2⟩ k'
      obtain ⟨x', N'⟩ := s
      simp only at p1 p2
      have hS' : zt_S N' o P := h1.keepA p2 (fun a h => h)
      have epl : zp_pl P b j = j := by unfold zp_pl; rw [if_pos hj]
      show zh_H (lb_M_usesOf_50 _ 52 (nI d) (nI v) (nI b) (lf_M_usesOf_50 _ 52 (nI d) (nI v) (nI b) fu') x' (nI j) N') _
      unfold lb_M_usesOf_50
      rw [zt_endOf hS' hb, Option.bind_some, if_neg (nI_ge hj (by omega)), zt_uses hS' (by omega) (by omega), Option.bind_some, zq_jp, zq_jp]
      have next : ∀ (N2 : mm_T) (c : Bool), zf_F M0 N2 zt_A → (c = true ↔ zp_uc P d j = true) → ∀ R : Int32 → Int32 → mm_T → Option (Int32 × mm_T), (∀ s' : Int32 × mm_T, zp_st P b ≤ j + 1 ∧ s'.1 = nI (fb_ct (zp_uc P d) (j + 1) + fb_ct (fun b => zp_uc P d (40 + b)) b) ∧ zf_F M0 s'.2 zt_A → zh_H (R s'.1 (nI (j + 1)) s'.2) (fun y => ∃ N, y = (nI (fb_ct (zp_uc P d) 52), N) ∧ zf_F M0 N zt_A)) → zh_H ((ff_M_one (zb_B c) N2).bind fun x9 => (some (x' + x9)).bind fun x10 => (some (nI j + 1)).bind fun x11 => R x10 x11 N2) (fun y => ∃ N, y = (nI (fb_ct (zp_uc P d) 52), N) ∧ zf_F M0 N zt_A) := by
        intro N2 c f2 hc R kR
        rw [zt_one, Option.bind_some, Option.bind_some, Option.bind_some, nI_1, p1, nI_add]
        have ee : fb_ct (zp_uc P d) j + fb_ct (fun b => zp_uc P d (40 + b)) b + (if c = true then 1 else 0) = fb_ct (zp_uc P d) (j + 1) + fb_ct (fun b => zp_uc P d (40 + b)) b := by
          rw [fb_ct_succ, Bool.eq_iff_iff.mpr hc]
          omega
        rw [ee]
        exact kR (_, N2) ⟨by omega, rfl, f2⟩
      cases eu : zp_us P j v with
      | false =>
        rw [if_pos (by decide)]
        exact next N' false p2 ⟨(by intro z; cases z), fun z => by have := ((zp_uc_iff hdf).mp z).2; rw [this] at eu; cases eu⟩ _ k'
      | true =>
        rw [if_neg (by decide)]
        refine zt_Qbd (zt_reachesPlace hS' hd hb p0 (by omega)) (fun N2 f2 q2 => ?_) (fun N2 f2 q2 => ?_)
        · rw [if_neg (by decide)]
          rw [epl] at q2
          exact next N2 true (zf_tr p2 f2) ⟨fun _ => (zp_uc_iff hdf).mpr ⟨q2, eu⟩, fun _ => rfl⟩ _ k'
        · rw [if_pos rfl]
          rw [epl] at q2
          exact next N2 false (zf_tr p2 f2) ⟨(by intro z; cases z), fun z => absurd ((zp_uc_iff hdf).mp z).1 q2⟩ _ k'
    · intro fu' s ⟨p0, p1, p2⟩
      obtain ⟨x', N'⟩ := s
      simp only at p1 p2
      have hS' : zt_S N' o P := h1.keepA p2 (fun a h => h)
      have epl : zp_pl P b (zp_st P (b + 1)) = 40 + b := by unfold zp_pl; rw [if_neg (Nat.lt_irrefl _)]
      show zh_H (lb_M_usesOf_50 _ 52 (nI d) (nI v) (nI b) (lf_M_usesOf_50 _ 52 (nI d) (nI v) (nI b) fu') x' (nI (zp_st P (b + 1))) N') _
      unfold lb_M_usesOf_50
      rw [zt_endOf hS' hb, Option.bind_some, if_pos (nI_le (Nat.le_refl _) (by omega))]
      dsimp only
      rw [zt_usesX hS' hb (by omega), Option.bind_some]
      have next : ∀ (N2 : mm_T) (c : Bool), zf_F M0 N2 zt_A → (c = true ↔ zp_uc P d (40 + b) = true) → zh_H ((ff_M_one (zb_B c) N2).bind fun x9 => (some (x' + x9)).bind fun x10 => (some (nI b + 1)).bind fun x11 => lf_M_usesOf_32 52 (nI d) (nI v) fu x10 x11 N2) (fun y => ∃ N, y = (nI (fb_ct (zp_uc P d) 52), N) ∧ zf_F M0 N zt_A) := by
        intro N2 c f2 hc
        rw [zt_one, Option.bind_some, Option.bind_some, Option.bind_some, nI_1, p1, nI_add]
        have ee : fb_ct (zp_uc P d) (zp_st P (b + 1)) + fb_ct (fun b => zp_uc P d (40 + b)) b + (if c = true then 1 else 0) = fb_ct (zp_uc P d) (zp_st P (b + 1)) + fb_ct (fun b => zp_uc P d (40 + b)) (b + 1) := by
          rw [fb_ct_succ, Bool.eq_iff_iff.mpr hc]
          omega
        rw [ee]
        exact k (_, N2) ⟨rfl, f2⟩
      cases eu : zp_us P (40 + b) v with
      | false =>
        rw [if_pos (by decide)]
        exact next N' false p2 ⟨(by intro z; cases z), fun z => by have := ((zp_uc_iff hdf).mp z).2; rw [this] at eu; cases eu⟩
      | true =>
        rw [if_neg (by decide), zt_endOf hS' hb, Option.bind_some]
        refine zt_Qbd (zt_reachesPlace hS' hd hb hse (Nat.le_refl _)) (fun N2 f2 q2 => ?_) (fun N2 f2 q2 => ?_)
        · rw [if_neg (by decide)]
          rw [epl] at q2
          exact next N2 true (zf_tr p2 f2) ⟨fun _ => (zp_uc_iff hdf).mpr ⟨q2, eu⟩, fun _ => rfl⟩
        · rw [if_pos rfl]
          rw [epl] at q2
          exact next N2 false (zf_tr p2 f2) ⟨(by intro z; cases z), fun z => absurd ((zp_uc_iff hdf).mp z).1 q2⟩
  · intro fu s ⟨g1, g2⟩
    obtain ⟨x, N⟩ := s
    simp only at g1 g2
    have hS : zt_S N o P := h1.keepA g2 (fun a h => h)
    show zh_H (lb_M_usesOf_32 52 (nI d) (nI v) (lf_M_usesOf_32 52 (nI d) (nI v) fu) x (nI (zp_nb P)) N) _
    unfold lb_M_usesOf_32
    rw [zt_nb hS, Option.bind_some, if_pos (nI_le (Nat.le_refl _) (by omega)), g1, hV.2.2.2.2.2.1, ← zs_pts hV (fun p hp => zp_uc_pt hV hp)]
    exact zh_some ⟨N, rfl, g2⟩
end ZTF
