/-! ===== the nearest governor, reference and class ===== -/
def zp_Ck (P : zp_T) (sk : Option Nat) (a b x : Nat) : Prop := some x ≠ sk ∧ zp_DM P x a ∧ zp_DM P x b
def zp_mx (P : zp_T) (C : Nat → Prop) (i : Nat) (r : Option Nat) : Prop := (r = none ∧ ∀ x, x < i → ¬ C x) ∨ ∃ c, c < i ∧ r = some c ∧ C c ∧ ∀ x, x < i → C x → zp_gc P x ≤ zp_gc P c
section ZR7
variable {M : mm_T} {o : Nat} {P : zp_T}
theorem zt_nearest (h : zt_S M o P) {a b : Nat} {sk : Option Nat} (ha : a < 12) (hb : b < 12) (hs : ∀ v, sk = some v → v < 12) : ∃ (r : Option Nat) (M' : mm_T), ff_M_nearestGovernor 52 (nI a) (nI b) (zo_N sk) M = some (zo_N r, M') ∧ zf_F M M' zt_A ∧ zp_mx P (zp_Ck P sk a b) (zp_nb P) r := by
  have hV := h.2.2.2.2
  have hnb := hV.2.1
  have e52 : (mm_k M 52).1 = 11 := by rw [h.1.1]
  suffices goal : zh_H (ff_M_nearestGovernor 52 (nI a) (nI b) (zo_N sk) M) (fun y => ∃ (r : Option Nat) (M' : mm_T), y = (zo_N r, M') ∧ zf_F M M' zt_A ∧ zp_mx P (zp_Ck P sk a b) (zp_nb P) r) by
    obtain ⟨y, e, r, M', rfl, g⟩ := goal
    exact ⟨r, M', e, g⟩
  unfold ff_M_nearestGovernor
  rw [zq_gd e52]
  refine zh_up (F := fun fu i (s : Int32 × mm_T) => lf_M_nearestGovernor_6 52 (nI a) (nI b) (zo_N sk) fu s.1 i s.2) (zp_nb P) (fun i s => ∃ r, s.1 = zo_N r ∧ zf_F M s.2 zt_A ∧ zp_mx P (zp_Ck P sk a b) i r) ?_ ?_ fu_L 0 (-1, M) (Nat.zero_le _) (by rw [zs_fuel]; omega) ⟨none, rfl, zf_rfl _ _, Or.inl ⟨rfl, fun x hx => absurd hx (Nat.not_lt_zero _)⟩⟩
  · intro fu i s hi ⟨r, g1, g2, g3⟩ kk
    obtain ⟨x, N⟩ := s
    simp only at g1 g2
    have hS : zt_S N o P := h.keepA g2 (fun a h => h)
    have hi12 : i < 12 := by omega
    have stay : ¬ zp_Ck P sk a b i → zp_mx P (zp_Ck P sk a b) (i + 1) r := by
      intro q
      rcases g3 with ⟨e, g3⟩ | ⟨c, hc, e, q3, g3⟩
      · refine Or.inl ⟨e, fun x hx => ?_⟩
        rcases Nat.lt_or_ge x i with z | z
        · exact g3 x z
        · rw [show x = i by omega]; exact q
      · refine Or.inr ⟨c, by omega, e, q3, fun x hx z2 => ?_⟩
        rcases Nat.lt_or_ge x i with z | z
        · exact g3 x z z2
        · rw [show x = i by omega] at z2; exact absurd z2 q
    show zh_H (lb_M_nearestGovernor_6 52 (nI a) (nI b) (zo_N sk) (lf_M_nearestGovernor_6 52 (nI a) (nI b) (zo_N sk) fu) x (nI i) N) _
    unfold lb_M_nearestGovernor_6
    rw [zt_nb hS, Option.bind_some, if_neg (nI_ge hi (by omega)), g1]
    simp only [zq_jp, Option.bind_some, nI_1]
    by_cases c : some i = sk
    · rw [if_pos (show nI i = zo_N sk by rw [← c]; rfl)]
      exact kk (zo_N r, N) ⟨r, rfl, g2, stay (fun z => z.1 c)⟩
    · have hne : ¬ nI i = zo_N sk := by
        cases sk with
        | none => exact zi_n1 (by omega)
        | some v => exact fun q => c (by rw [(nI_eq (by omega) (by have := hs v rfl; omega)).mp q])
      rw [if_neg hne]
      refine zt_Qbd (zt_governs hS hi12 ha) (fun N1 f1 q1 => ?_) (fun N1 f1 q1 => ?_)
      · have hS1 : zt_S N1 o P := hS.keepA f1 (fun a h => h)
        rw [if_neg (by decide)]
        refine zt_Qbd (zt_governs hS1 hi12 hb) (fun N2 f2 q2 => ?_) (fun N2 f2 q2 => ?_)
        · have hS2 : zt_S N2 o P := hS1.keepA f2 (fun a h => h)
          have f02 : zf_F M N2 zt_A := zf_tr g2 (zf_tr f1 f2)
          have hC : zp_Ck P sk a b i := ⟨c, q1, q2⟩
          rw [if_neg (by decide)]
          rcases g3 with ⟨e, g3⟩ | ⟨d, hd, e, q3, g3⟩
          · subst e
            rw [if_pos (show zo_N none = -1 from rfl)]
            refine kk (nI i, N2) ⟨some i, rfl, f02, Or.inr ⟨i, by omega, rfl, hC, fun x hx z2 => ?_⟩⟩
            rcases Nat.lt_or_ge x i with z | z
            · exact absurd z2 (g3 x z)
            · rw [show x = i by omega]; exact Nat.le_refl _
          · subst e
            rw [if_neg (show ¬ zo_N (some d) = -1 from zi_n1 (by omega))]
            obtain ⟨N3, e3, f3⟩ := zt_governors hS2 hi12
            have hS3 : zt_S N3 o P := hS2.keepA f3 (fun a h => h)
            obtain ⟨N4, e4, f4⟩ := zt_governors hS3 (show d < 12 by omega)
            have l1 : zp_gc P i ≤ zp_nb P := fb_ct_le _ _
            have l2 : zp_gc P d ≤ zp_nb P := fb_ct_le _ _
            refine zh_at2 e3 ?_
            refine zh_at2 (a := nI (zp_gc P d)) (b := N4) e4 ?_
            have f04 : zf_F M N4 zt_A := zf_tr f02 (zf_tr f3 f4)
            by_cases g : zp_gc P i ≤ zp_gc P d
            · rw [if_pos (nI_le g (by omega))]
              refine kk (nI d, N4) ⟨some d, rfl, f04, Or.inr ⟨d, by omega, rfl, q3, fun x hx z2 => ?_⟩⟩
              rcases Nat.lt_or_ge x i with z | z
              · exact g3 x z z2
              · rw [show x = i by omega]; exact g
            · rw [if_neg (nI_ge (by omega) (by omega))]
              refine kk (nI i, N4) ⟨some i, rfl, f04, Or.inr ⟨i, by omega, rfl, hC, fun x hx z2 => ?_⟩⟩
              rcases Nat.lt_or_ge x i with z | z
              · have := g3 x z z2; omega
              · rw [show x = i by omega]; exact Nat.le_refl _
        · rw [if_pos rfl]
          exact kk (zo_N r, N2) ⟨r, rfl, zf_tr g2 (zf_tr f1 f2), stay (fun z => q2 z.2.2)⟩
      · rw [if_pos rfl]
        exact kk (zo_N r, N1) ⟨r, rfl, zf_tr g2 f1, stay (fun z => q1 z.2.1)⟩
  · intro fu s ⟨r, g1, g2, g3⟩
    obtain ⟨x, N⟩ := s
    simp only at g1 g2
    have hS : zt_S N o P := h.keepA g2 (fun a h => h)
    show zh_H (lb_M_nearestGovernor_6 52 (nI a) (nI b) (zo_N sk) (lf_M_nearestGovernor_6 52 (nI a) (nI b) (zo_N sk) fu) x (nI (zp_nb P)) N) _
    unfold lb_M_nearestGovernor_6
    rw [zt_nb hS, Option.bind_some, if_pos (nI_le (Nat.le_refl _) (by omega)), g1]
    exact zh_some ⟨r, N, rfl, g2, g3⟩
theorem zp_mx_NG (hV : zp_V P) {C D : Nat → Prop} (hC : zp_CH P D) (e : ∀ x, C x ↔ D x) {r : Option Nat} (h : zp_mx P C (zp_nb P) r) : zp_NG P D r := by
  have lt : ∀ x, D x → x < zp_nb P := fun x q => by
    rcases hC.2 x x q q with z | z <;> exact (zp_DM_lt hV z).1
  rcases h with ⟨rfl, h⟩ | ⟨c, hc, rfl, q, h⟩
  · exact Or.inl ⟨rfl, fun x z => h x (lt x z) ((e x).mpr z)⟩
  · exact zp_NG_max hV hC ((e c).mp q) (fun x z => h x (lt x z) ((e x).mpr z))
theorem zt_near1 (h : zt_S M o P) {a : Nat} (ha : a < 12) : ∃ (r : Option Nat) (M' : mm_T), ff_M_nearestGovernor 52 (nI a) (nI a) (nI a) M = some (zo_N r, M') ∧ zf_F M M' zt_A ∧ zp_NG P (zp_C1 P a) r := by
  obtain ⟨r, M', e, f, g⟩ := zt_nearest h (sk := some a) ha ha (fun v hv => by cases hv; exact ha)
  refine ⟨r, M', e, f, zp_mx_NG h.2.2.2.2 (zp_CH1 P a) (fun x => ?_) g⟩
  unfold zp_Ck zp_C1
  exact ⟨fun z => ⟨z.2.1, fun q => z.1 (by rw [q])⟩, fun z => ⟨fun q => z.2 (Option.some.inj q), z.1, z.1⟩⟩
theorem zt_near2 (h : zt_S M o P) {a b : Nat} (ha : a < 12) (hb : b < 12) : ∃ (r : Option Nat) (M' : mm_T), ff_M_nearestGovernor 52 (nI a) (nI b) (-1) M = some (zo_N r, M') ∧ zf_F M M' zt_A ∧ zp_NG P (zp_C2 P a b) r := by
  obtain ⟨r, M', e, f, g⟩ := zt_nearest h (sk := none) ha hb (fun v hv => by cases hv)
  refine ⟨r, M', e, f, zp_mx_NG h.2.2.2.2 (zp_CH2 P a b) (fun x => ?_) g⟩
  unfold zp_Ck zp_C2
  exact ⟨fun z => z.2, fun z => ⟨(fun q => by cases q), z⟩⟩
end ZR7
/-- the class: the one of a set whose own dominators are the set -/
theorem zg_closest {M : mm_T} {P : zp_T} (hG : zk_G M) (hV : zp_V P) (hd : zd_G M P) {C : Nat → Prop} (hC : zp_CH P C) {S : Int32} (hS : ∀ x, x < 32 → (bt S x = true ↔ C x)) : ∃ r, ff_G_closestOf 18 S M = some (zo_N r) ∧ zp_NG P C r := by
  have hnb := hV.2.1
  have e18 : (mm_k M 18).1 = 2 := by rw [hG.1]
  suffices goal : zh_H (ff_G_closestOf 18 S M) (fun y => ∃ r, y = zo_N r ∧ zp_NG P C r) by
    obtain ⟨y, e, r, rfl, g⟩ := goal
    exact ⟨r, e, g⟩
  obtain ⟨r0, hr0⟩ := zp_NG_ex hV hC
  have lt : ∀ x, C x → x < zp_nb P := fun x q => by
    rcases hC.2 x x q q with z | z <;> exact (zp_DM_lt hV z).1
  unfold ff_G_closestOf
  rw [zq_gd e18]
  refine zh_up (F := fun fu i (_ : Unit) => lf_G_closestOf_2 18 S M fu i) 12 (fun i _ => ∀ c, c < i → r0 ≠ some c) ?_ ?_ fu_L 0 () (Nat.zero_le _) (by rw [zs_fuel]; omega) (fun c hc => absurd hc (Nat.not_lt_zero _))
  · intro fu i s hi g k
    show zh_H (lb_G_closestOf_2 18 S M (lf_G_closestOf_2 18 S M fu) (nI i)) _
    unfold lb_G_closestOf_2
    rw [if_neg (show ¬ (12 : Int32) ≤ nI i from nI_ge (b := 12) hi (by omega)), zb_hasBit (by omega), Option.bind_some]
    have next : r0 ≠ some i → zh_H (lf_G_closestOf_2 18 S M fu (nI (i + 1))) (fun y => ∃ r, y = zo_N r ∧ zp_NG P C r) := fun q => k () (fun c hc => by
      rcases Nat.lt_or_ge c i with z | z
      · exact g c z
      · rw [show c = i by omega]; exact q)
    simp only [zq_jp, Option.bind_some, nI_1]
    cases e : bt S i with
    | false =>
      rw [if_pos (by decide)]
      refine next (fun q => ?_)
      rcases hr0 with ⟨z, _⟩ | ⟨c, z, z2, _⟩
      · rw [z] at q; cases q
      · rw [q] at z
        cases z
        rw [(hS i (by omega)).mpr z2] at e
        cases e
    | true =>
      rw [if_neg (by decide)]
      simp only [zg_R e18, hG.2.1.2.2.2.1, Option.bind_some]
      rw [zd_at (hG.2.2.2.2.2.1) hi (by omega), Option.bind_some]
      by_cases q : mm_I M 22 i = S
      · rw [if_pos q]
        refine zh_some ⟨some i, rfl, Or.inr ⟨i, rfl, (hS i (by omega)).mp e, fun d => ?_⟩⟩
        constructor
        · intro z
          have := (zp_DM_lt hV z).1
          exact (hS d (by omega)).mp (by rw [← q]; exact (hd.2.2.1 i hi d (by omega)).mpr z)
        · intro z
          have := lt d z
          exact (hd.2.2.1 i hi d (by omega)).mp (by rw [q]; exact (hS d (by omega)).mpr z)
      · rw [if_neg q]
        refine next (fun z => q ?_)
        rcases hr0 with ⟨z2, _⟩ | ⟨c, z2, z3, z4⟩
        · rw [z2] at z; cases z
        · rw [z] at z2
          cases z2
          refine b_ext fun d hd32 => ?_
          refine Bool.eq_iff_iff.mpr ((hd.2.2.1 i hi d hd32).trans ((z4 d).trans (hS d hd32).symm))
  · intro fu s g
    show zh_H (lb_G_closestOf_2 18 S M (lf_G_closestOf_2 18 S M fu) (nI 12)) _
    unfold lb_G_closestOf_2
    rw [if_pos (show (12 : Int32) ≤ nI 12 from nI_le (a := 12) (Nat.le_refl _) (by omega))]
    refine zh_some ⟨none, rfl, ?_⟩
    rcases hr0 with z | ⟨c, z2, z3, z4⟩
    · exact Or.inl ⟨rfl, z.2⟩
    · exact absurd z2 (g c (by have := lt c z3; omega))
