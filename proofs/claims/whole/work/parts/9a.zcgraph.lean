/-! ===== answers on blocks and the graph: the class ===== -/
theorem zs_cut {p : Nat → Bool} {n m : Nat} (h : n ≤ m) (hp : ∀ k, n ≤ k → p k = false) : fb_ct p m = fb_ct p n := by
  obtain ⟨d, rfl⟩ : ∃ d, m = n + d := ⟨m - n, by omega⟩
  rw [fb_ct_split, fb_ct_zero.mpr (fun k _ => hp (n + k) (by omega)), Nat.add_zero]
def zv_instructionsIn (P : zp_T) (a : Int32) : Nat × Int32 := if zi_A (zp_nb P) a then (0, nI (zp_st P (zi_n a + 1) - zp_st P (zi_n a))) else (1, 0)
def zv_blockOf (P : zp_T) (a : Int32) : Nat × Int32 := if zi_A (zp_ni P) a then (0, nI (zp_bk P (zi_n a))) else (1, 0)
def zv_kindOf (P : zp_T) (a : Int32) : Nat × Int32 := if zi_A (zp_ni P) a then (0, nI (zp_k P (zi_n a))) else (1, 0)
def zv_successor (P : zp_T) (a k : Int32) : Nat × Int32 := if zi_A (zp_nb P) a then (if zi_A (zp_w P (zi_n a)) k then (0, nI (zp_way P (zi_n a) (zi_n k))) else (2, 0)) else (1, 0)
def zv_predecessors (P : zp_T) (a : Int32) : Nat × Int32 := if zi_A (zp_nb P) a then (0, nI (fb_ct (fun x => zp_ed P x (zi_n a)) (zp_nb P))) else (1, 0)
noncomputable def zv_isReachable (P : zp_T) (a : Int32) : Nat × Int32 := if zi_A (zp_nb P) a then (0, zb_B (zp_b (zp_RB P (zi_n a)))) else (1, 0)
def zv_distanceTo (P : zp_T) (a : Int32) : Nat × Int32 := if zi_A (zp_nb P) a then (0, if zp_nr P 11 (zi_n a) = true then nI (zp_dist P (zi_n a)) else -1) else (1, 0)
noncomputable def zv_dominates (P : zp_T) (a b : Int32) : Nat × Int32 := if zi_A (zp_nb P) a then (if zi_A (zp_nb P) b then (0, zb_B (zp_b (zp_DM P (zi_n a) (zi_n b)))) else (1, 0)) else (1, 0)
noncomputable def zp_id (P : zp_T) (C : Nat → Prop) : Option Nat := Classical.epsilon (fun r => zp_NG P C r)
theorem zp_id_eq {P : zp_T} {C : Nat → Prop} {r : Option Nat} (h : zp_NG P C r) : zp_id P C = r := zp_NG_one (Classical.epsilon_spec ⟨r, h⟩) h
noncomputable def zv_immediateDominator (P : zp_T) (a : Int32) : Nat × Int32 := if zi_A (zp_nb P) a then (0, zo_N (zp_id P (zp_C1 P (zi_n a)))) else (1, 0)
noncomputable def zv_commonDominator (P : zp_T) (a b : Int32) : Nat × Int32 := if zi_A (zp_nb P) a then (if zi_A (zp_nb P) b then (0, zo_N (zp_id P (zp_C2 P (zi_n a) (zi_n b)))) else (1, 0)) else (1, 0)
noncomputable def zv_loopSize (P : zp_T) (a : Int32) : Nat × Int32 := if zi_A (zp_nb P) a then (0, nI (fb_ct (fun x => zp_b (zp_BD P (zi_n a) x)) (zp_nb P))) else (1, 0)
noncomputable def zv_loopDepth (P : zp_T) (a : Int32) : Nat × Int32 := if zi_A (zp_nb P) a then (0, nI (fb_ct (fun x => zp_b (zp_BD P x (zi_n a))) (zp_nb P))) else (1, 0)
section ZCA
variable {M : mm_T} {P : zp_T}
theorem zg_zc {M M' : mm_T} (f : zf_F M M' zg_A) : zf_F M M' zc_A := zf_mono f (fun a q => by unfold zg_A at q; unfold zc_A; omega)
theorem zc_e1 (h : zc_Q M P) : (mm_k M 1).1 = 10 := by rw [h.1.1]
theorem zc_instructionsIn (h : zc_Q M P) (a : Int32) : zc_O (ff_D_instructionsIn 1 a M) M P (zr_c ["java/lang/IndexOutOfBoundsException"] (zv_instructionsIn P a)) := by
  have hV := h.2.1.2.2
  unfold ff_D_instructionsIn zv_instructionsIn
  rw [zq_gd (zc_e1 h)]
  refine zc_rq h (zc_reqB h a) rfl (fun c => ?_)
  obtain ⟨hb, ea⟩ := zi_An c
  rw [zg_R (zc_e1 h), Option.bind_some, h.1.2.1]
  generalize zi_n a = b at hb ea
  subst ea
  rw [zr_sizeOf h.2.1.1 h.2.1.2.1 hV hb, Option.bind_some]
  exact zc_ret (zf_rfl _ _) h
theorem zc_blockOf (h : zc_Q M P) (a : Int32) : zc_O (ff_D_blockOf 1 a M) M P (zr_c ["java/lang/IndexOutOfBoundsException"] (zv_blockOf P a)) := by
  have hV := h.2.1.2.2
  unfold ff_D_blockOf zv_blockOf
  rw [zq_gd (zc_e1 h)]
  refine zc_rq h (zc_reqI h a) rfl (fun c => ?_)
  obtain ⟨hb, ea⟩ := zi_An c
  rw [zg_R (zc_e1 h), Option.bind_some, h.1.2.1]
  generalize zi_n a = b at hb ea
  subst ea
  have hni := hV.2.2.1
  have e : zp_bp P b = zp_bk P b := by unfold zp_bp; rw [if_pos (by omega)]
  rw [zr_blockAt h.2.1.1 h.2.1.2.1 hV (p := b) (Or.inl hb), Option.bind_some, e]
  exact zc_ret (zf_rfl _ _) h
theorem zc_kindOf (h : zc_Q M P) (a : Int32) : zc_O (ff_D_kindOf 1 a M) M P (zr_c ["java/lang/IndexOutOfBoundsException"] (zv_kindOf P a)) := by
  have hV := h.2.1.2.2
  unfold ff_D_kindOf zv_kindOf
  rw [zq_gd (zc_e1 h)]
  refine zc_rq h (zc_reqI h a) rfl (fun c => ?_)
  obtain ⟨hb, ea⟩ := zi_An c
  rw [zg_R (zc_e1 h), Option.bind_some, h.1.2.1]
  generalize zi_n a = b at hb ea
  subst ea
  have hni := hV.2.2.1
  rw [zr_kindAt h.2.1.1 h.2.1.2.1 hV (p := b) (Or.inl hb), Option.bind_some, if_pos (by omega)]
  exact zc_ret (zf_rfl _ _) h
theorem zc_successor (h : zc_Q M P) (a k : Int32) : zc_O (ff_D_successor 1 a k M) M P (zr_c ["java/lang/IndexOutOfBoundsException", "java/util/NoSuchElementException"] (zv_successor P a k)) := by
  have hV := h.2.1.2.2
  unfold ff_D_successor zv_successor
  rw [zq_gd (zc_e1 h)]
  refine zc_rq h (zc_reqB h a) rfl (fun c => ?_)
  obtain ⟨hb, ea⟩ := zi_An c
  rw [zq_jp]
  generalize zi_n a = b at hb ea
  subst ea
  have hw := zp_w_le hV hb
  by_cases d : k < 0
  · rw [if_pos d, if_neg (fun q => by have := zi_neg.mp d; have := q.1; omega)]
    exact zc_thr h rfl
  · rw [if_neg d]
    simp only [zg_R (zc_e1 h), Option.bind_some, h.1.2.1]
    rw [zr_wayCount h.2.1.1 h.2.1.2.1 hV hb, Option.bind_some]
    have d0 : 0 ≤ k.toInt := by rw [zi_neg] at d; omega
    by_cases q : k < nI (zp_w P b)
    · have qa : zi_A (zp_w P b) k := ⟨d0, (zi_ltn (by omega) d).mp q⟩
      rw [if_pos q, if_pos qa]
      obtain ⟨hk, ek⟩ := zi_An qa
      generalize zi_n k = j at hk ek
      subst ek
      rw [zr_wayOf h.2.1.1 h.2.1.2.1 hV hb hk, Option.bind_some]
      exact zc_ret (zf_rfl _ _) h
    · rw [if_neg q, if_neg (fun z => q ((zi_ltn (by omega) d).mpr z.2))]
      exact zc_thr h rfl
theorem zc_predecessors (h : zc_Q M P) (a : Int32) : zc_O (ff_D_predecessors 1 a M) M P (zr_c ["java/lang/IndexOutOfBoundsException"] (zv_predecessors P a)) := by
  have hV := h.2.1.2.2
  have hnb := hV.2.1
  unfold ff_D_predecessors zv_predecessors
  rw [zq_gd (zc_e1 h)]
  refine zc_rq h (zc_reqB h a) rfl (fun c => ?_)
  obtain ⟨hb, ea⟩ := zi_An c
  generalize zi_n a = b at hb ea
  subst ea
  obtain ⟨M', e, f, q, _, d⟩ := zc_graph h
  have e18 : (mm_k M' 18).1 = 2 := by rw [q.2.2.1.1.1]
  unfold bd_2
  rw [e, Option.bind_some]
  unfold ff_G_predecessorSet
  simp only [zq_gd e18, zg_R e18, Option.bind_some, q.2.2.1.1.2.1.2.1]
  rw [zd_at q.2.2.1.1.2.2.2.1 (show b < 12 by omega) (by omega), Option.bind_some, Option.bind_some, zq_I, Option.bind_some]
  have eq : fb_ct (bt (mm_I M' 20 b)) 32 = fb_ct (fun x => zp_ed P x b) (zp_nb P) := by
    rw [fb_ct_cong (q := fun x => zp_ed P x b) (fun x hx => d.1.1 b (by omega) x hx)]
    exact zs_cut (by omega) (fun x hx => by
      cases e : zp_ed P x b with
      | false => rfl
      | true => have := (zp_ed_lt hV e).1; omega)
  rw [eq]
  exact zc_ret (zg_zc f) q
theorem zc_isReachable (h : zc_Q M P) (a : Int32) : zc_O (ff_D_isReachable 1 a M) M P (zr_c ["java/lang/IndexOutOfBoundsException"] (zv_isReachable P a)) := by
  have hV := h.2.1.2.2
  have hnb := hV.2.1
  unfold ff_D_isReachable zv_isReachable
  rw [zq_gd (zc_e1 h)]
  refine zc_rq h (zc_reqB h a) rfl (fun c => ?_)
  obtain ⟨hb, ea⟩ := zi_An c
  generalize zi_n a = b at hb ea
  subst ea
  obtain ⟨M', e, f, q, _, d⟩ := zc_graph h
  unfold bd_2
  rw [e, Option.bind_some]
  show zc_O ((ff_G_isReached 18 (nI b) M').bind _) M P _
  rw [zg_isReached q.2.2.1.1 (show b < 32 by omega), Option.bind_some, zb_Zok, Option.bind_some, zp_b_eq (d.1.2 b (by omega))]
  exact zc_ret (zg_zc f) q
theorem zc_distanceTo (h : zc_Q M P) (a : Int32) : zc_O (ff_D_distanceTo 1 a M) M P (zr_c ["java/lang/IndexOutOfBoundsException"] (zv_distanceTo P a)) := by
  have hV := h.2.1.2.2
  have hnb := hV.2.1
  unfold ff_D_distanceTo zv_distanceTo
  rw [zq_gd (zc_e1 h)]
  refine zc_rq h (zc_reqB h a) rfl (fun c => ?_)
  obtain ⟨hb, ea⟩ := zi_An c
  generalize zi_n a = b at hb ea
  subst ea
  obtain ⟨M', e, f, q, _, d⟩ := zc_graph h
  have e18 : (mm_k M' 18).1 = 2 := by rw [q.2.2.1.1.1]
  unfold bd_2
  rw [e, Option.bind_some]
  unfold ff_G_distance
  simp only [zq_gd e18, zg_R e18, Option.bind_some, q.2.2.1.1.2.1.2.2.1]
  rw [zd_at q.2.2.1.1.2.2.2.2.1 (show b < 12 by omega) (by omega), Option.bind_some, Option.bind_some, d.2.1 b (by omega)]
  exact zc_ret (zg_zc f) q
theorem zg_domSet {N : mm_T} (q : zc_Q N P) {b : Nat} (hb : b < 12) : ff_G_dominatorSet 18 (nI b) N = some (mm_I N 22 b) := by
  have e18 : (mm_k N 18).1 = 2 := by rw [q.2.2.1.1.1]
  unfold ff_G_dominatorSet
  rw [zq_gd e18, zg_R e18, Option.bind_some, q.2.2.1.1.2.1.2.2.2.1, zd_at q.2.2.1.1.2.2.2.2.2.1 hb (by omega), Option.bind_some]
theorem zc_dominates (h : zc_Q M P) (a a2 : Int32) : zc_O (ff_D_dominates 1 a a2 M) M P (zr_c ["java/lang/IndexOutOfBoundsException"] (zv_dominates P a a2)) := by
  have hV := h.2.1.2.2
  have hnb := hV.2.1
  unfold ff_D_dominates zv_dominates
  rw [zq_gd (zc_e1 h)]
  refine zc_rq h (zc_reqB h a) rfl (fun c => zc_rq h (zc_reqB h a2) rfl (fun c2 => ?_))
  obtain ⟨hb, ea⟩ := zi_An c
  obtain ⟨hb2, ea2⟩ := zi_An c2
  generalize zi_n a = b at hb ea
  generalize zi_n a2 = b2 at hb2 ea2
  subst ea ea2
  obtain ⟨M', e, f, q, _, d⟩ := zc_graph h
  unfold bd_2
  rw [e, Option.bind_some]
  show zc_O ((ff_G_dominatorSet 18 (nI b2) M').bind _) M P _
  rw [zg_domSet q (show b2 < 12 by omega), Option.bind_some, zb_hasBit (by omega), Option.bind_some, zb_Zok, Option.bind_some, zp_b_eq (d.2.2.1 b2 (by omega) b (by omega))]
  exact zc_ret (zg_zc f) q
theorem zc_graph2 (h : zc_Q M P) (z : mm_I M 18 0 = 1) : ff_D_graph 1 M = some (18, M) := by
  have e18 : (mm_k M 18).1 = 2 := by rw [h.2.2.1.1.1]
  unfold ff_D_graph
  simp only [zq_gd (zc_e1 h), zg_R (zc_e1 h), h.1.2.2.2.2.2.2.2.1, Option.bind_some, zg_I e18, zq_jp]
  rw [if_neg (by rw [z]; decide)]
theorem zc_immediateDominator (h : zc_Q M P) (a : Int32) : zc_O (ff_D_immediateDominator 1 a M) M P (zr_c ["java/lang/IndexOutOfBoundsException"] (zv_immediateDominator P a)) := by
  have hV := h.2.1.2.2
  have hnb := hV.2.1
  unfold ff_D_immediateDominator zv_immediateDominator
  rw [zq_gd (zc_e1 h)]
  refine zc_rq h (zc_reqB h a) rfl (fun c => ?_)
  obtain ⟨hb, ea⟩ := zi_An c
  generalize zi_n a = b at hb ea
  subst ea
  obtain ⟨M', e, f, q, z, d⟩ := zc_graph h
  unfold bd_2
  rw [e, Option.bind_some]
  show zc_O ((ff_D_graph 1 M').bind _) M P _
  rw [zc_graph2 q z, Option.bind_some]
  show zc_O ((ff_G_dominatorSet 18 (nI b) M').bind _) M P _
  rw [zg_domSet q (show b < 12 by omega), Option.bind_some]
  obtain ⟨r, er, hr⟩ := zg_closest q.2.2.1.1 hV d (zp_CH1 P b) (S := mm_I M' 22 b &&& (io_shl 1 (nI b) ^^^ -1)) (fun x hx => by
    rw [b_and, zb_not _ hx, zb_one b (by omega), Bool.and_eq_true, d.2.2.1 b (by omega) x hx]
    unfold zp_C1
    simp)
  rw [er, Option.bind_some, zp_id_eq hr]
  exact zc_ret (zg_zc f) q
theorem zc_commonDominator (h : zc_Q M P) (a a2 : Int32) : zc_O (ff_D_commonDominator 1 a a2 M) M P (zr_c ["java/lang/IndexOutOfBoundsException"] (zv_commonDominator P a a2)) := by
  have hV := h.2.1.2.2
  have hnb := hV.2.1
  unfold ff_D_commonDominator zv_commonDominator
  rw [zq_gd (zc_e1 h)]
  refine zc_rq h (zc_reqB h a) rfl (fun c => zc_rq h (zc_reqB h a2) rfl (fun c2 => ?_))
  obtain ⟨hb, ea⟩ := zi_An c
  obtain ⟨hb2, ea2⟩ := zi_An c2
  generalize zi_n a = b at hb ea
  generalize zi_n a2 = b2 at hb2 ea2
  subst ea ea2
  obtain ⟨M', e, f, q, z, d⟩ := zc_graph h
  unfold bd_2
  rw [e, Option.bind_some]
  show zc_O ((ff_D_graph 1 M').bind _) M P _
  rw [zc_graph2 q z, Option.bind_some]
  show zc_O ((ff_G_dominatorSet 18 (nI b) M').bind _) M P _
  rw [zg_domSet q (show b < 12 by omega), Option.bind_some]
  rw [zc_graph2 q z, Option.bind_some]
  show zc_O ((ff_G_dominatorSet 18 (nI b2) M').bind _) M P _
  rw [zg_domSet q (show b2 < 12 by omega), Option.bind_some]
  obtain ⟨r, er, hr⟩ := zg_closest q.2.2.1.1 hV d (zp_CH2 P b b2) (S := mm_I M' 22 b &&& mm_I M' 22 b2) (fun x hx => by
    rw [b_and, Bool.and_eq_true, d.2.2.1 b (by omega) x hx, d.2.2.1 b2 (by omega) x hx]
    exact Iff.rfl)
  rw [er, Option.bind_some, zp_id_eq hr]
  exact zc_ret (zg_zc f) q
theorem zp_BD_lt (hV : zp_V P) {y x : Nat} (h : zp_BD P y x) : x < zp_nb P ∧ y < zp_nb P := by
  obtain ⟨⟨o, ho⟩, h2, _⟩ := h
  exact ⟨zp_RB_lt hV h2, (zp_ed_lt hV ho.1).2⟩
theorem zp_bF {Φ : Prop} (h : ¬ Φ) : zp_b Φ = false := by
  cases e : zp_b Φ with
  | false => rfl
  | true => exact absurd (zp_b_iff.mp e) h
theorem zc_loopSize (h : zc_Q M P) (a : Int32) : zc_O (ff_D_loopSize 1 a M) M P (zr_c ["java/lang/IndexOutOfBoundsException"] (zv_loopSize P a)) := by
  have hV := h.2.1.2.2
  have hnb := hV.2.1
  unfold ff_D_loopSize zv_loopSize
  rw [zq_gd (zc_e1 h)]
  refine zc_rq h (zc_reqB h a) rfl (fun c => ?_)
  obtain ⟨hb, ea⟩ := zi_An c
  generalize zi_n a = b at hb ea
  subst ea
  obtain ⟨M', e, f, q, z, d⟩ := zc_graph h
  have e18 : (mm_k M' 18).1 = 2 := by rw [q.2.2.1.1.1]
  unfold bd_2
  rw [e, Option.bind_some]
  unfold ff_G_bodyOf
  simp only [zq_gd e18, zg_R e18, Option.bind_some, q.2.2.1.1.2.1.2.2.2.2]
  rw [zd_at q.2.2.1.1.2.2.2.2.2.2 (show b < 12 by omega) (by omega), Option.bind_some, Option.bind_some, zq_I, Option.bind_some]
  have eq : fb_ct (bt (mm_I M' 23 b)) 32 = fb_ct (fun x => zp_b (zp_BD P b x)) (zp_nb P) := by
    rw [fb_ct_cong (q := fun x => zp_b (zp_BD P b x)) (fun x hx => zp_b_eq (d.2.2.2 b (by omega) x hx))]
    exact zs_cut (by omega) (fun x hx => zp_bF (fun z => by have := (zp_BD_lt hV z).1; omega))
  rw [eq]
  exact zc_ret (zg_zc f) q
theorem zg_bodiesWith {N : mm_T} (q : zc_Q N P) (d : zd_G N P) {b : Nat} (hb : b < 12) : ff_G_countBodiesWith 18 (nI b) N = some (nI (fb_ct (fun x => zp_b (zp_BD P x b)) 12)) := by
  have e18 : (mm_k N 18).1 = 2 := by rw [q.2.2.1.1.1]
  unfold ff_G_countBodiesWith
  rw [zq_gd e18]
  refine zh_is (zh_up (F := fun fu i (x : Int32) => lf_G_countBodiesWith_4 18 (nI b) N fu x i) (Q := fun y => y = nI (fb_ct (fun x => zp_b (zp_BD P x b)) 12)) 12 (fun i x => x = nI (fb_ct (fun x => zp_b (zp_BD P x b)) i)) ?_ ?_ fu_L 0 0 (Nat.zero_le _) (by rw [zs_fuel]; omega) rfl)
  · intro fu i x hi hx k
    show zh_H (lb_G_countBodiesWith_4 18 (nI b) N (lf_G_countBodiesWith_4 18 (nI b) N fu) x (nI i)) _
    unfold lb_G_countBodiesWith_4
    rw [if_neg (show ¬ (12 : Int32) ≤ nI i from nI_ge (b := 12) hi (by omega)), zg_R e18, Option.bind_some, q.2.2.1.1.2.1.2.2.2.2, zd_at q.2.2.1.1.2.2.2.2.2.2 hi (by omega), Option.bind_some, zb_hasBit (by omega), Option.bind_some, zq_jp]
    rw [zp_b_eq (d.2.2.2 i hi b (by omega)), hx]
    simp only [Option.bind_some, nI_1]
    cases e : zp_b (zp_BD P i b) with
    | true =>
      rw [if_neg (by decide)]
      refine k _ ?_
      rw [fb_ct_succ, e]; rfl
    | false =>
      rw [if_pos (by decide), Int32.add_zero]
      refine k _ ?_
      rw [fb_ct_succ, e]; rfl
  · intro fu x hx
    show zh_H (lb_G_countBodiesWith_4 18 (nI b) N (lf_G_countBodiesWith_4 18 (nI b) N fu) x (nI 12)) _
    unfold lb_G_countBodiesWith_4
    rw [if_pos (show (12 : Int32) ≤ nI 12 from nI_le (a := 12) (Nat.le_refl _) (by omega)), hx]
    exact zh_some rfl
theorem zc_loopDepth (h : zc_Q M P) (a : Int32) : zc_O (ff_D_loopDepth 1 a M) M P (zr_c ["java/lang/IndexOutOfBoundsException"] (zv_loopDepth P a)) := by
  have hV := h.2.1.2.2
  have hnb := hV.2.1
  unfold ff_D_loopDepth zv_loopDepth
  rw [zq_gd (zc_e1 h)]
  refine zc_rq h (zc_reqB h a) rfl (fun c => ?_)
  obtain ⟨hb, ea⟩ := zi_An c
  generalize zi_n a = b at hb ea
  subst ea
  obtain ⟨M', e, f, q, z, d⟩ := zc_graph h
  unfold bd_2
  rw [e, Option.bind_some]
  show zc_O ((ff_G_countBodiesWith 18 (nI b) M').bind _) M P _
  rw [zg_bodiesWith q d (show b < 12 by omega), Option.bind_some, zs_cut (show zp_nb P ≤ 12 by omega) (fun x hx => zp_bF (fun z => by have := (zp_BD_lt hV z).2; omega))]
  exact zc_ret (zg_zc f) q
theorem zs_swap (p : Nat → Nat → Bool) (m : Nat) : ∀ n, fb_sm (fun h => fb_ct (fun o => p o h) n) m = fb_sm (fun o => fb_ct (fun h => p o h) m) n := by
  intro n
  induction n with
  | zero =>
    show fb_sm (fun _ => 0) m = 0
    rw [fb_sm_const, Nat.mul_zero]
  | succ n ih =>
    rw [fb_sm_succ, ← ih]
    have : fb_sm (fun h => fb_ct (fun o => p o h) (n + 1)) m = fb_sm (fun h => fb_ct (fun o => p o h) n + (if p n h then 1 else 0)) m := fb_sm_cong (fun k _ => fb_ct_succ _ _)
    rw [this, fb_sm_add]
    congr 1
    clear this ih
    induction m with
    | zero => rfl
    | succ m ih => rw [fb_sm_succ, fb_ct_succ, ih]
theorem zs_smcut {f : Nat → Nat} {n m : Nat} (h : n ≤ m) (hp : ∀ k, n ≤ k → f k = 0) : fb_sm f m = fb_sm f n := by
  obtain ⟨d, rfl⟩ : ∃ d, m = n + d := ⟨m - n, by omega⟩
  rw [fb_sm_split, fb_sm_cong (g := fun _ => 0) (fun k _ => hp (n + k) (by omega)), fb_sm_const, Nat.mul_zero, Nat.add_zero]
/-- how many back edges -/
noncomputable def zv_backEdges (P : zp_T) : Nat := fb_sm (fun h => fb_ct (fun o => zp_b (zp_BE P o h)) (zp_nb P)) (zp_nb P)
theorem zg_countBack {N : mm_T} (q : zc_Q N P) (d : zd_G N P) : ff_G_countBackEdges 18 N = some (nI (zv_backEdges P)) := by
  have hV := q.2.1.2.2
  have hnb := hV.2.1
  have e18 : (mm_k N 18).1 = 2 := by rw [q.2.2.1.1.1]
  have hm : zg_Mid N P := ⟨d.1, d.2.1, d.2.2.1⟩
  have fin : zv_backEdges P = fb_sm (fun h => fb_ct (fun o => zp_b (zp_BE P o h)) 32) 12 := by
    unfold zv_backEdges
    have : ∀ h, fb_ct (fun o => zp_b (zp_BE P o h)) 32 = fb_ct (fun o => zp_b (zp_BE P o h)) (zp_nb P) := fun h => zs_cut (by omega) (fun x hx => zp_bF (fun z => by have := (zp_ed_lt hV z.1).1; omega))
    simp only [this]
    exact (zs_smcut (by omega) (fun x hx => fb_ct_zero.mpr (fun o _ => zp_bF (fun z => by have := (zp_ed_lt hV z.1).2; omega)))).symm
  rw [fin]
  unfold ff_G_countBackEdges
  rw [zq_gd e18]
  refine zh_is (zh_up (F := fun fu i (x : Int32) => lf_G_countBackEdges_4 18 N fu x i) (Q := fun y => y = nI (fb_sm (fun h => fb_ct (fun o => zp_b (zp_BE P o h)) 32) 12)) 12 (fun i x => x = nI (fb_sm (fun h => fb_ct (fun o => zp_b (zp_BE P o h)) 32) i)) ?_ ?_ fu_L 0 0 (Nat.zero_le _) (by rw [zs_fuel]; omega) rfl)
  · intro fu i x hi hx k
    show zh_H (lb_G_countBackEdges_4 18 N (lf_G_countBackEdges_4 18 N fu) x (nI i)) _
    unfold lb_G_countBackEdges_4
    obtain ⟨y, ey, hy⟩ := zg_origins q.2.2.1.1 hV hm hi
    rw [if_neg (show ¬ (12 : Int32) ≤ nI i from nI_ge (b := 12) hi (by omega)), ey, Option.bind_some, zq_I, Option.bind_some, Option.bind_some, Option.bind_some, hx, nI_add, nI_1]
    refine k _ ?_
    rw [fb_sm_succ, fb_ct_cong (p := bt y) (q := fun o => zp_b (zp_BE P o i)) (fun o ho => zp_b_eq (hy o ho))]
  · intro fu x hx
    show zh_H (lb_G_countBackEdges_4 18 N (lf_G_countBackEdges_4 18 N fu) x (nI 12)) _
    unfold lb_G_countBackEdges_4
    rw [if_pos (show (12 : Int32) ≤ nI 12 from nI_le (a := 12) (Nat.le_refl _) (by omega)), hx]
    exact zh_some rfl
theorem zc_backEdges (h : zc_Q M P) : zc_I (ff_D_backEdges 1 M) M P (nI (zv_backEdges P)) := by
  unfold ff_D_backEdges
  rw [zq_gd (zc_e1 h)]
  obtain ⟨M', e, f, q, z, d⟩ := zc_graph h
  unfold bd_2
  rw [e, Option.bind_some]
  show zc_I ((ff_G_countBackEdges 18 M').bind _) M P _
  rw [zg_countBack q d, Option.bind_some]
  exact ⟨M', rfl, zg_zc f, q⟩
theorem zc_blockCount (h : zc_Q M P) : ff_D_blockCount 1 M = some (nI (zp_nb P)) := by
  unfold ff_D_blockCount
  rw [zq_gd (zc_e1 h), zg_R (zc_e1 h), Option.bind_some, h.1.2.1, zr_blocks h.2.1.1 h.2.1.2.1, Option.bind_some]
theorem zc_instructionCount (h : zc_Q M P) : ff_D_instructionCount 1 M = some (nI (zp_ni P)) := by
  unfold ff_D_instructionCount
  rw [zq_gd (zc_e1 h), zg_R (zc_e1 h), Option.bind_some, h.1.2.1, zr_instr h.2.1.1 h.2.1.2.1, Option.bind_some]
end ZCA
