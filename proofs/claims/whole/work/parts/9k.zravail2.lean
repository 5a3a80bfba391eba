/-! ===== answers on expressions: the reference ===== -/
section ZTK
variable {M : mm_T} {o : Nat} {P : zp_T}
theorem zt_newestN (h : zt_S M o P) {i : Nat} (hi : i < zp_ni P) : ff_M_isNewest 52 (nI i) M = some (zb_B (zp_isN P i)) := zt_newest h hi
theorem zt_expressionCount (h : zt_S M o P) : zt_O (ff_M_expressionCount 52 M) M (0, nI (zv_expressionCount P)) := by
  have hni := h.2.2.2.2.2.2.1
  unfold ff_M_expressionCount
  rw [zq_gd (zt_e52 h), zp_I (zt_e52 h), Option.bind_some]
  have key : ∀ N, zt_S N o P → lf_M_expressionCount_9 52 N fu_L 0 0 = some (nI (zv_expressionCount P), N) := by
    intro N h1
    refine zh_is (zh_up (F := fun fu i (x : Int32) => lf_M_expressionCount_9 52 N fu x i) (Q := fun y => y = (nI (zv_expressionCount P), N)) (zp_ni P) (fun i x => x = nI (fb_ct (zp_isN P) i)) ?_ ?_ fu_L 0 0 (Nat.zero_le _) (by rw [zs_fuel]; omega) rfl)
    · intro fu i x hi hx k
      show zh_H (lb_M_expressionCount_9 52 N (lf_M_expressionCount_9 52 N fu) x (nI i)) _
      unfold lb_M_expressionCount_9
      rw [zt_ni h1, Option.bind_some, if_neg (nI_ge hi (by omega)), zt_newestN h1 hi, Option.bind_some, zt_one, Option.bind_some, Option.bind_some, Option.bind_some, hx, nI_add, nI_1]
      refine k _ ?_
      rw [fb_ct_succ]
    · intro fu x hx
      show zh_H (lb_M_expressionCount_9 52 N (lf_M_expressionCount_9 52 N fu) x (nI (zp_ni P))) _
      unfold lb_M_expressionCount_9
      rw [zt_ni h1, Option.bind_some, if_pos (nI_le (Nat.le_refl _) (by omega)), hx]
      exact zh_some rfl
  rw [key _ (h.thrown 0)]
  exact zt_retF (zf_rfl _ _)
theorem zt_isRedundant (h : zt_S M o P) (a : Int32) : zt_O (ff_M_isRedundant 52 a M) M (zv_isRedundant P a) := by
  unfold ff_M_isRedundant zv_isRedundant
  rw [zq_gd (zt_e52 h)]
  refine zt_opI h (fun c h1 => ?_)
  obtain ⟨hi, ea⟩ := zi_An c
  generalize zi_n a = i at hi ea
  subst ea
  obtain ⟨d', N, e, f, g⟩ := zt_redundant0 h1 hi
  unfold bd_2
  rw [e, Option.bind_some]
  show zt_O ((zb_Z (zb_B d')).bind _) M _
  rw [zb_Zok, Option.bind_some, zp_b_eq g]
  exact zt_retF f
theorem zt_redundantCount (h : zt_S M o P) : zt_O (ff_M_redundantCount 52 M) M (0, nI (zv_redundantCount P)) := by
  have hni := h.2.2.2.2.2.2.1
  unfold ff_M_redundantCount
  rw [zq_gd (zt_e52 h), zp_I (zt_e52 h), Option.bind_some]
  have h1 := h.thrown 0
  suffices goal : zh_H (lf_M_redundantCount_9 52 fu_L 0 0 (mm_sI M 52 4 0)) (fun y => ∃ N, y = (nI (zv_redundantCount P), N) ∧ zf_F (mm_sI M 52 4 0) N zt_A) by
    obtain ⟨y, e, N, rfl, f⟩ := goal
    rw [e]
    exact zt_retF f
  generalize mm_sI M 52 4 0 = M0 at h1 ⊢
  refine zh_up (F := fun fu i (s : Int32 × mm_T) => lf_M_redundantCount_9 52 fu s.1 i s.2) (zp_ni P) (fun i s => s.1 = nI (fb_ct (fun i => zp_b (zp_RU P i)) i) ∧ zf_F M0 s.2 zt_A) ?_ ?_ fu_L 0 (0, M0) (Nat.zero_le _) (by rw [zs_fuel]; omega) ⟨rfl, zf_rfl _ _⟩
  · intro fu i s hi ⟨g1, g2⟩ k
    obtain ⟨x, N⟩ := s
    simp only at g1 g2
    have hS : zt_S N o P := h1.keepA g2 (fun a h => h)
    show zh_H (lb_M_redundantCount_9 52 (lf_M_redundantCount_9 52 fu) x (nI i) N) _
    unfold lb_M_redundantCount_9
    rw [zt_ni hS, Option.bind_some, if_neg (nI_ge hi (by omega))]
    obtain ⟨d, N', eN, fN, hd⟩ := zt_redundant0 hS hi
    refine zh_at2 eN ?_
    rw [zt_one, Option.bind_some, Option.bind_some, Option.bind_some, nI_1, g1, nI_add]
    have ee : fb_ct (fun i => zp_b (zp_RU P i)) i + (if d = true then 1 else 0) = fb_ct (fun i => zp_b (zp_RU P i)) (i + 1) := by
      rw [fb_ct_succ, zp_b_eq hd]
    rw [ee]
    exact k (_, N') ⟨rfl, zf_tr g2 fN⟩
  · intro fu s ⟨g1, g2⟩
    obtain ⟨x, N⟩ := s
    simp only at g1 g2
    have hS : zt_S N o P := h1.keepA g2 (fun a h => h)
    show zh_H (lb_M_redundantCount_9 52 (lf_M_redundantCount_9 52 fu) x (nI (zp_ni P)) N) _
    unfold lb_M_redundantCount_9
    rw [zt_ni hS, Option.bind_some, if_pos (nI_le (Nat.le_refl _) (by omega)), g1]
    exact zh_some ⟨N, rfl, g2⟩
theorem zt_availableAt (h : zt_S M o P) (a : Int32) : zt_O (ff_M_availableAt 52 a M) M (zv_availableAt P a) := by
  have hV := h.2.2.2.2
  have hni := hV.2.2.1
  unfold ff_M_availableAt zv_availableAt
  rw [zq_gd (zt_e52 h)]
  refine zt_opB h (fun c h1 => ?_)
  obtain ⟨hb, ea⟩ := zi_An c
  generalize zi_n a = b at hb ea
  subst ea
  suffices goal : zh_H (lf_M_availableAt_14 52 (nI b) fu_L 0 0 (mm_sI M 52 4 0)) (fun y => ∃ N, y = (nI (fb_ct (fun n => zp_b (zp_AL P n (zp_fp P b))) (zp_ni P)), N) ∧ zf_F (mm_sI M 52 4 0) N zt_A) by
    obtain ⟨y, e, N, rfl, f⟩ := goal
    rw [e]
    exact zt_retF f
  generalize mm_sI M 52 4 0 = M0 at h1 ⊢
  refine zh_up (F := fun fu i (s : Int32 × mm_T) => lf_M_availableAt_14 52 (nI b) fu s.1 i s.2) (zp_ni P) (fun i s => s.1 = nI (fb_ct (fun n => zp_b (zp_AL P n (zp_fp P b))) i) ∧ zf_F M0 s.2 zt_A) ?_ ?_ fu_L 0 (0, M0) (Nat.zero_le _) (by rw [zs_fuel]; omega) ⟨rfl, zf_rfl _ _⟩
  · intro fu i s hi ⟨g1, g2⟩ k
    obtain ⟨x, N⟩ := s
    simp only at g1 g2
    have hS : zt_S N o P := h1.keepA g2 (fun a h => h)
    show zh_H (lb_M_availableAt_14 52 (nI b) (lf_M_availableAt_14 52 (nI b) fu) x (nI i) N) _
    unfold lb_M_availableAt_14
    rw [zt_ni hS, Option.bind_some, if_neg (nI_ge hi (by omega)), zt_newestN hS hi, Option.bind_some, zq_jp, zq_jp]
    have next : ∀ (N2 : mm_T) (d : Bool), zf_F M0 N2 zt_A → (d = true ↔ zp_AL P i (zp_fp P b)) → zh_H ((ff_M_one (zb_B d) N2).bind fun x6 => (some (x + x6)).bind fun x7 => (some (nI i + 1)).bind fun x8 => lf_M_availableAt_14 52 (nI b) fu x7 x8 N2) (fun y => ∃ N, y = (nI (fb_ct (fun n => zp_b (zp_AL P n (zp_fp P b))) (zp_ni P)), N) ∧ zf_F M0 N zt_A) := by
      intro N2 d f2 hd
      rw [zt_one, Option.bind_some, Option.bind_some, Option.bind_some, nI_1, g1, nI_add]
      have ee : fb_ct (fun n => zp_b (zp_AL P n (zp_fp P b))) i + (if d = true then 1 else 0) = fb_ct (fun n => zp_b (zp_AL P n (zp_fp P b))) (i + 1) := by
        rw [fb_ct_succ, zp_b_eq hd]
      rw [ee]
      exact k (_, N2) ⟨rfl, f2⟩
    cases e : zp_isN P i with
    | false =>
      rw [if_pos (by decide)]
      exact next N false g2 ⟨(by intro z; cases z), fun z => by have := (zp_AL_name hV z).2; rw [e] at this; cases this⟩
    | true =>
      have e' := e
      unfold zp_isN at e'
      rw [Bool.and_eq_true, decide_eq_true_eq, decide_eq_true_eq] at e'
      rw [if_neg (by decide), zt_firstOf hS (by omega), Option.bind_some]
      refine zt_Qbd (zt_available hS hi e'.1 hb (Nat.le_refl _) (hV.2.2.2.2.1 b hb)) (fun N2 f2 q2 => ?_) (fun N2 f2 q2 => ?_)
      · rw [e'.2, ← zp_fp_pl] at q2
        rw [if_neg (by decide)]
        exact next N2 true (zf_tr g2 f2) ⟨fun _ => q2, fun _ => rfl⟩
      · rw [e'.2, ← zp_fp_pl] at q2
        rw [if_pos rfl]
        exact next N2 false (zf_tr g2 f2) ⟨(by intro z; cases z), fun z => absurd z q2⟩
  · intro fu s ⟨g1, g2⟩
    obtain ⟨x, N⟩ := s
    simp only at g1 g2
    have hS : zt_S N o P := h1.keepA g2 (fun a h => h)
    show zh_H (lb_M_availableAt_14 52 (nI b) (lf_M_availableAt_14 52 (nI b) fu) x (nI (zp_ni P)) N) _
    unfold lb_M_availableAt_14
    rw [zt_ni hS, Option.bind_some, if_pos (nI_le (Nat.le_refl _) (by omega)), g1]
    exact zh_some ⟨N, rfl, g2⟩
end ZTK
