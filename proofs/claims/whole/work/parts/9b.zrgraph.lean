/-! ===== answers on blocks and the graph: the reference ===== -/
section ZTB
variable {M : mm_T} {o : Nat} {P : zp_T}
theorem zt_e52 (h : zt_S M o P) : (mm_k M 52).1 = 11 := by rw [h.1.1]
/-- an answer without a question of rooms: the code 0 -/
def zt_I (X : Option (Int32 × mm_T)) (M : mm_T) (w : Int32) : Prop := zt_O X M (0, w)
theorem zt_blockCount (h : zt_S M o P) : zt_O (ff_M_blockCount 52 M) M (0, nI (zp_nb P)) := by
  have h1 := h.thrown 0
  unfold ff_M_blockCount
  rw [zq_gd (zt_e52 h), zp_I (zt_e52 h), Option.bind_some, zt_nb h1, Option.bind_some]
  exact zt_retF (zf_rfl _ _)
theorem zt_instructionCount (h : zt_S M o P) : zt_O (ff_M_instructionCount 52 M) M (0, nI (zp_ni P)) := by
  have h1 := h.thrown 0
  unfold ff_M_instructionCount
  rw [zq_gd (zt_e52 h), zp_I (zt_e52 h), Option.bind_some, zt_ni h1, Option.bind_some]
  exact zt_retF (zf_rfl _ _)
theorem zt_instructionsIn (h : zt_S M o P) (a : Int32) : zt_O (ff_M_instructionsIn 52 a M) M (zv_instructionsIn P a) := by
  unfold ff_M_instructionsIn zv_instructionsIn
  rw [zq_gd (zt_e52 h)]
  refine zt_opB (f := (0, _)) h (fun c h1 => ?_)
  obtain ⟨hb, ea⟩ := zi_An c
  generalize zi_n a = b at hb ea
  subst ea
  rw [zt_len h1 hb, Option.bind_some]
  exact zt_retF (zf_rfl _ _)
theorem zt_blockOf (h : zt_S M o P) (a : Int32) : zt_O (ff_M_blockOf 52 a M) M (zv_blockOf P a) := by
  unfold ff_M_blockOf zv_blockOf
  rw [zq_gd (zt_e52 h)]
  refine zt_opI (f := (0, _)) h (fun c h1 => ?_)
  obtain ⟨hb, ea⟩ := zi_An c
  generalize zi_n a = b at hb ea
  subst ea
  rw [zt_blockAt h1 hb, Option.bind_some]
  exact zt_retF (zf_rfl _ _)
theorem zt_kindOf (h : zt_S M o P) (a : Int32) : zt_O (ff_M_kindOf 52 a M) M (zv_kindOf P a) := by
  unfold ff_M_kindOf zv_kindOf
  rw [zq_gd (zt_e52 h)]
  refine zt_opI (f := (0, _)) h (fun c h1 => ?_)
  obtain ⟨hb, ea⟩ := zi_An c
  generalize zi_n a = b at hb ea
  subst ea
  rw [zt_k h1 hb, Option.bind_some]
  exact zt_retF (zf_rfl _ _)
theorem zt_successor (h : zt_S M o P) (a k : Int32) : zt_O (ff_M_successor 52 a k M) M (zv_successor P a k) := by
  have hV := h.2.2.2.2
  unfold ff_M_successor zv_successor
  rw [zq_gd (zt_e52 h)]
  refine zt_opB h (fun c h1 => ?_)
  obtain ⟨hb, ea⟩ := zi_An c
  generalize zi_n a = b at hb ea
  subst ea
  have hw := zp_w_le hV hb
  simp only [zq_jp, zp_I (zt_e52 h1), Option.bind_some, zm_over]
  by_cases d : k < 0
  · rw [if_pos d, if_neg (fun q => by have := zi_neg.mp d; have := q.1; omega)]
    exact zt_thr (k := 2) (by omega) (zf_rfl _ _)
  · rw [if_neg d, zt_ways h1 hb, Option.bind_some]
    have d0 : 0 ≤ k.toInt := by rw [zi_neg] at d; omega
    by_cases q : k < nI (zp_w P b)
    · have qa : zi_A (zp_w P b) k := ⟨d0, (zi_ltn (by omega) d).mp q⟩
      rw [if_pos q, if_pos qa]
      obtain ⟨hk, ek⟩ := zi_An qa
      generalize zi_n k = j at hk ek
      subst ek
      rw [zt_way h1 hb hk, Option.bind_some]
      exact zt_retF (zf_rfl _ _)
    · rw [if_neg q, if_neg (fun z => q ((zi_ltn (by omega) d).mpr z.2))]
      exact zt_thr (k := 2) (by omega) (zf_rfl _ _)
theorem zt_predecessors (h : zt_S M o P) (a : Int32) : zt_O (ff_M_predecessors 52 a M) M (zv_predecessors P a) := by
  have hV := h.2.2.2.2
  have hnb := hV.2.1
  unfold ff_M_predecessors zv_predecessors
  rw [zq_gd (zt_e52 h)]
  refine zt_opB h (fun c h1 => ?_)
  obtain ⟨hb, ea⟩ := zi_An c
  generalize zi_n a = b at hb ea
  subst ea
  have key : ∀ N, zt_S N o P → lf_M_predecessors_14 52 (nI b) N fu_L 0 0 = some (nI (fb_ct (fun x => zp_ed P x b) (zp_nb P)), N) := by
    intro N h1
    refine zh_is (zh_up (F := fun fu i (x : Int32) => lf_M_predecessors_14 52 (nI b) N fu x i) (Q := fun y => y = (nI (fb_ct (fun x => zp_ed P x b) (zp_nb P)), N)) (zp_nb P) (fun i x => x = nI (fb_ct (fun x => zp_ed P x b) i)) ?_ ?_ fu_L 0 0 (Nat.zero_le _) (by rw [zs_fuel]; omega) rfl)
    · intro fu i x hi hx k
      show zh_H (lb_M_predecessors_14 52 (nI b) N (lf_M_predecessors_14 52 (nI b) N fu) x (nI i)) _
      unfold lb_M_predecessors_14
      rw [zt_nb h1, Option.bind_some, if_neg (nI_ge hi (by omega)), zt_leads h1 hi (by omega), Option.bind_some, zt_one, Option.bind_some, Option.bind_some, Option.bind_some, hx, nI_add, nI_1]
      refine k _ ?_
      rw [fb_ct_succ]
    · intro fu x hx
      show zh_H (lb_M_predecessors_14 52 (nI b) N (lf_M_predecessors_14 52 (nI b) N fu) x (nI (zp_nb P))) _
      unfold lb_M_predecessors_14
      rw [zt_nb h1, Option.bind_some, if_pos (nI_le (Nat.le_refl _) (by omega)), hx]
      exact zh_some rfl
  rw [key _ h1]
  exact zt_retF (zf_rfl _ _)
theorem zt_isReachable (h : zt_S M o P) (a : Int32) : zt_O (ff_M_isReachable 52 a M) M (zv_isReachable P a) := by
  have hnb := h.2.2.2.2.2.1
  unfold ff_M_isReachable zv_isReachable
  rw [zq_gd (zt_e52 h)]
  refine zt_opB h (fun c h1 => ?_)
  obtain ⟨hb, ea⟩ := zi_An c
  generalize zi_n a = b at hb ea
  subst ea
  obtain ⟨d, N, e, f, g⟩ := zt_isReached h1 (show b < 12 by omega)
  unfold bd_2
  rw [e, Option.bind_some]
  show zt_O ((zb_Z (zb_B d)).bind _) M _
  rw [zb_Zok, Option.bind_some, zp_b_eq g]
  exact zt_retF f
theorem zt_dominates (h : zt_S M o P) (a a2 : Int32) : zt_O (ff_M_dominates 52 a a2 M) M (zv_dominates P a a2) := by
  have hnb := h.2.2.2.2.2.1
  unfold ff_M_dominates zv_dominates
  rw [zq_gd (zt_e52 h)]
  refine zt_opB h (fun c h1 => ?_)
  refine zt_opB2 h (fun c2 => ?_)
  obtain ⟨hb, ea⟩ := zi_An c
  obtain ⟨hb2, ea2⟩ := zi_An c2
  generalize zi_n a = b at hb ea
  generalize zi_n a2 = b2 at hb2 ea2
  subst ea ea2
  obtain ⟨d, N, e, f, g⟩ := zt_governs h1 (show b < 12 by omega) (show b2 < 12 by omega)
  unfold bd_2
  rw [e, Option.bind_some]
  show zt_O ((zb_Z (zb_B d)).bind _) M _
  rw [zb_Zok, Option.bind_some, zp_b_eq g]
  exact zt_retF f
theorem zt_immediateDominator (h : zt_S M o P) (a : Int32) : zt_O (ff_M_immediateDominator 52 a M) M (zv_immediateDominator P a) := by
  have hnb := h.2.2.2.2.2.1
  unfold ff_M_immediateDominator zv_immediateDominator
  rw [zq_gd (zt_e52 h)]
  refine zt_opB h (fun c h1 => ?_)
  obtain ⟨hb, ea⟩ := zi_An c
  generalize zi_n a = b at hb ea
  subst ea
  obtain ⟨r, N, e, f, g⟩ := zt_near1 h1 (show b < 12 by omega)
  unfold bd_2
  rw [e, Option.bind_some, zp_id_eq g]
  exact zt_retF f
theorem zt_commonDominator (h : zt_S M o P) (a a2 : Int32) : zt_O (ff_M_commonDominator 52 a a2 M) M (zv_commonDominator P a a2) := by
  have hnb := h.2.2.2.2.2.1
  unfold ff_M_commonDominator zv_commonDominator
  rw [zq_gd (zt_e52 h)]
  refine zt_opB h (fun c h1 => ?_)
  refine zt_opB2 h (fun c2 => ?_)
  obtain ⟨hb, ea⟩ := zi_An c
  obtain ⟨hb2, ea2⟩ := zi_An c2
  generalize zi_n a = b at hb ea
  generalize zi_n a2 = b2 at hb2 ea2
  subst ea ea2
  obtain ⟨r, N, e, f, g⟩ := zt_near2 h1 (show b < 12 by omega) (show b2 < 12 by omega)
  unfold bd_2
  rw [e, Option.bind_some, zp_id_eq g]
  exact zt_retF f
theorem zt_loopSize (h : zt_S M o P) (hB : mm_n M + 20 < st_B) (a : Int32) : zt_O (ff_M_loopSize 52 a M) M (zv_loopSize P a) := by
  have hnb := h.2.2.2.2.2.1
  unfold ff_M_loopSize zv_loopSize
  rw [zq_gd (zt_e52 h)]
  refine zt_opB h (fun c h1 => ?_)
  obtain ⟨hb, ea⟩ := zi_An c
  generalize zi_n a = b at hb ea
  subst ea
  suffices goal : zh_H (lf_M_loopSize_14 52 (nI b) fu_L 0 0 (mm_sI M 52 4 0)) (fun y => ∃ N, y = (nI (fb_ct (fun x => zp_b (zp_BD P b x)) (zp_nb P)), N) ∧ zf_X (mm_sI M 52 4 0) N zt_A 20 240) by
    obtain ⟨y, e, N, rfl, f⟩ := goal
    rw [e]
    exact zt_ret f
  have hB' : mm_n (mm_sI M 52 4 0) + 20 < st_B := hB
  generalize mm_sI M 52 4 0 = M0 at h1 hB' ⊢
  refine zh_up (F := fun fu i (s : Int32 × mm_T) => lf_M_loopSize_14 52 (nI b) fu s.1 i s.2) (zp_nb P) (fun i s => s.1 = nI (fb_ct (fun x => zp_b (zp_BD P b x)) i) ∧ zf_X M0 s.2 zt_A i (12 * i)) ?_ ?_ fu_L 0 (0, M0) (Nat.zero_le _) (by rw [zs_fuel]; omega) ⟨rfl, zu_rfl _ _⟩
  · intro fu i s hi ⟨g1, g2⟩ k
    obtain ⟨x, N⟩ := s
    simp only at g1 g2
    have hS : zt_S N o P := h1.keepX g2
    show zh_H (lb_M_loopSize_14 52 (nI b) (lf_M_loopSize_14 52 (nI b) fu) x (nI i) N) _
    unfold lb_M_loopSize_14
    rw [zt_nb hS, Option.bind_some, if_neg (nI_ge hi (by omega))]
    obtain ⟨d, N', eN, fN, hd⟩ := zt_isInLoop hS (by have := g2.2.1; omega) hi (show b < 12 by omega)
    refine zh_at2 eN ?_
    rw [zt_one, Option.bind_some, Option.bind_some, Option.bind_some, nI_1, g1, nI_add]
    refine k (_, N') ⟨?_, zu_wk (zu_tr g2 fN) (by omega) (by omega) (fun a h => h)⟩
    rw [fb_ct_succ, zp_b_eq hd]
    rfl
  · intro fu s ⟨g1, g2⟩
    obtain ⟨x, N⟩ := s
    simp only at g1 g2
    have hS : zt_S N o P := h1.keepX g2
    show zh_H (lb_M_loopSize_14 52 (nI b) (lf_M_loopSize_14 52 (nI b) fu) x (nI (zp_nb P)) N) _
    unfold lb_M_loopSize_14
    rw [zt_nb hS, Option.bind_some, if_pos (nI_le (Nat.le_refl _) (by omega)), g1]
    exact zh_some ⟨N, rfl, zu_wk g2 (by omega) (by omega) (fun a h => h)⟩
theorem zt_loopDepth (h : zt_S M o P) (hB : mm_n M + 20 < st_B) (a : Int32) : zt_O (ff_M_loopDepth 52 a M) M (zv_loopDepth P a) := by
  have hnb := h.2.2.2.2.2.1
  unfold ff_M_loopDepth zv_loopDepth
  rw [zq_gd (zt_e52 h)]
  refine zt_opB h (fun c h1 => ?_)
  obtain ⟨hb, ea⟩ := zi_An c
  generalize zi_n a = b at hb ea
  subst ea
  suffices goal : zh_H (lf_M_loopDepth_14 52 (nI b) fu_L 0 0 (mm_sI M 52 4 0)) (fun y => ∃ N, y = (nI (fb_ct (fun x => zp_b (zp_BD P x b)) (zp_nb P)), N) ∧ zf_X (mm_sI M 52 4 0) N zt_A 20 240) by
    obtain ⟨y, e, N, rfl, f⟩ := goal
    rw [e]
    exact zt_ret f
  have hB' : mm_n (mm_sI M 52 4 0) + 20 < st_B := hB
  generalize mm_sI M 52 4 0 = M0 at h1 hB' ⊢
  refine zh_up (F := fun fu i (s : Int32 × mm_T) => lf_M_loopDepth_14 52 (nI b) fu s.1 i s.2) (zp_nb P) (fun i s => s.1 = nI (fb_ct (fun x => zp_b (zp_BD P x b)) i) ∧ zf_X M0 s.2 zt_A i (12 * i)) ?_ ?_ fu_L 0 (0, M0) (Nat.zero_le _) (by rw [zs_fuel]; omega) ⟨rfl, zu_rfl _ _⟩
  · intro fu i s hi ⟨g1, g2⟩ k
    obtain ⟨x, N⟩ := s
    simp only at g1 g2
    have hS : zt_S N o P := h1.keepX g2
    show zh_H (lb_M_loopDepth_14 52 (nI b) (lf_M_loopDepth_14 52 (nI b) fu) x (nI i) N) _
    unfold lb_M_loopDepth_14
    rw [zt_nb hS, Option.bind_some, if_neg (nI_ge hi (by omega))]
    obtain ⟨d, N', eN, fN, hd⟩ := zt_isInLoop hS (by have := g2.2.1; omega) hb (show i < 12 by omega)
    refine zh_at2 eN ?_
    rw [zt_one, Option.bind_some, Option.bind_some, Option.bind_some, nI_1, g1, nI_add]
    refine k (_, N') ⟨?_, zu_wk (zu_tr g2 fN) (by omega) (by omega) (fun a h => h)⟩
    rw [fb_ct_succ, zp_b_eq hd]
    rfl
  · intro fu s ⟨g1, g2⟩
    obtain ⟨x, N⟩ := s
    simp only at g1 g2
    have hS : zt_S N o P := h1.keepX g2
    show zh_H (lb_M_loopDepth_14 52 (nI b) (lf_M_loopDepth_14 52 (nI b) fu) x (nI (zp_nb P)) N) _
    unfold lb_M_loopDepth_14
    rw [zt_nb hS, Option.bind_some, if_pos (nI_le (Nat.le_refl _) (by omega)), g1]
    exact zh_some ⟨N, rfl, zu_wk g2 (by omega) (by omega) (fun a h => h)⟩
theorem zt_backEdges (h : zt_S M o P) : zt_O (ff_M_backEdges 52 M) M (0, nI (zv_backEdges P)) := by
  have hnb := h.2.2.2.2.2.1
  unfold ff_M_backEdges zv_backEdges
  rw [zq_gd (zt_e52 h), zp_I (zt_e52 h), Option.bind_some, zs_swap (fun a b => zp_b (zp_BE P a b))]
  have h1 := h.thrown 0
  suffices goal : zh_H (lf_M_backEdges_9 52 fu_L 0 0 (mm_sI M 52 4 0)) (fun y => ∃ N, y = (nI (fb_sm (fun x => fb_ct (fun y => zp_b (zp_BE P x y)) (zp_nb P)) (zp_nb P)), N) ∧ zf_F (mm_sI M 52 4 0) N zt_A) by
    obtain ⟨y, e, N, rfl, f⟩ := goal
    rw [e]
    exact zt_retF f
  generalize mm_sI M 52 4 0 = M0 at h1 ⊢
  refine zh_up (F := fun fu i (s : Int32 × mm_T) => lf_M_backEdges_9 52 fu s.1 i s.2) (zp_nb P) (fun i s => s.1 = nI (fb_sm (fun x => fb_ct (fun y => zp_b (zp_BE P x y)) (zp_nb P)) i) ∧ zf_F M0 s.2 zt_A) ?_ ?_ fu_L 0 (0, M0) (Nat.zero_le _) (by rw [zs_fuel]; omega) ⟨rfl, zf_rfl _ _⟩
  · intro fu i s hi ⟨g1, g2⟩ k
    obtain ⟨x, N⟩ := s
    simp only at g1 g2
    have hS : zt_S N o P := h1.keepA g2 (fun a h => h)
    show zh_H (lb_M_backEdges_9 52 (lf_M_backEdges_9 52 fu) x (nI i) N) _
    unfold lb_M_backEdges_9
    rw [zt_nb hS, Option.bind_some, if_neg (nI_ge hi (by omega))]
    simp only [Option.bind_some, nI_1]
    refine zh_up (F := fun fu j (s : Int32 × mm_T) => lf_M_backEdges_20 _ 52 (nI i) fu s.1 j s.2) (zp_nb P) (fun j s => s.1 = nI (fb_sm (fun x => fb_ct (fun y => zp_b (zp_BE P x y)) (zp_nb P)) i + fb_ct (fun y => zp_b (zp_BE P i y)) j) ∧ zf_F M0 s.2 zt_A) ?_ ?_ fu_L 0 (x, N) (Nat.zero_le _) (by rw [zs_fuel]; omega) ⟨by rw [g1, show fb_ct (fun y => zp_b (zp_BE P i y)) 0 = 0 from rfl, Nat.add_zero], g2⟩
    · intro fu' j s hj ⟨p1, p2⟩ k'
      obtain ⟨x', N'⟩ := s
      simp only at p1 p2
      have hS' : zt_S N' o P := h1.keepA p2 (fun a h => h)
      show zh_H (lb_M_backEdges_20 _ 52 (nI i) (lf_M_backEdges_20 _ 52 (nI i) fu') x' (nI j) N') _
      unfold lb_M_backEdges_20
      rw [zt_nb hS', Option.bind_some, if_neg (nI_ge hj (by omega))]
      obtain ⟨d, N2, eN, fN, hd⟩ := zt_isBackEdge hS' hi (show j < 12 by omega)
      refine zh_at2 eN ?_
      rw [zt_one, Option.bind_some, Option.bind_some, Option.bind_some, nI_1, p1, nI_add]
      have ee : fb_sm (fun x => fb_ct (fun y => zp_b (zp_BE P x y)) (zp_nb P)) i + fb_ct (fun y => zp_b (zp_BE P i y)) j + (if d = true then 1 else 0) = fb_sm (fun x => fb_ct (fun y => zp_b (zp_BE P x y)) (zp_nb P)) i + fb_ct (fun y => zp_b (zp_BE P i y)) (j + 1) := by
        rw [fb_ct_succ, zp_b_eq hd, Nat.add_assoc]
      rw [ee]
      exact k' (_, N2) ⟨rfl, zf_tr p2 fN⟩
    · intro fu' s ⟨p1, p2⟩
      obtain ⟨x', N'⟩ := s
      simp only at p1 p2
      have hS' : zt_S N' o P := h1.keepA p2 (fun a h => h)
      show zh_H (lb_M_backEdges_20 _ 52 (nI i) (lf_M_backEdges_20 _ 52 (nI i) fu') x' (nI (zp_nb P)) N') _
      unfold lb_M_backEdges_20
      rw [zt_nb hS', Option.bind_some, if_pos (nI_le (Nat.le_refl _) (by omega))]
      exact k (x', N') ⟨by rw [p1, fb_sm_succ], p2⟩
  · intro fu s ⟨g1, g2⟩
    obtain ⟨x, N⟩ := s
    simp only at g1 g2
    have hS : zt_S N o P := h1.keepA g2 (fun a h => h)
    show zh_H (lb_M_backEdges_9 52 (lf_M_backEdges_9 52 fu) x (nI (zp_nb P)) N) _
    unfold lb_M_backEdges_9
    rw [zt_nb hS, Option.bind_some, if_pos (nI_le (Nat.le_refl _) (by omega)), g1]
    exact zh_some ⟨N, rfl, g2⟩
end ZTB
