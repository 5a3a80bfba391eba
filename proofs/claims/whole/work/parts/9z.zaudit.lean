/-! ===== a run keeps to the constants and to the initial values; auditDifference, the class ===== -/
def zj_inv (P : zp_T) (s : zj_T) : Prop := zp_OP P (zj_p s) ∧ (∀ F, zc_pre P F → ∀ v, v < 8 → zc_ge (nI (zj_v s v)) (F (zj_p s) v)) ∧ ∀ v, v < 8 → zj_w s v = true ∨ zp_RI P v (zj_p s)
theorem zj_inv_0 {P : zp_T} (hV : zp_V P) : zj_inv P (zj_0 P) := ⟨zp_OP_0 hV, fun F hF v hv => hF.1 v hv, fun v hv => Or.inr ⟨hv, zs_in rfl⟩⟩
theorem zj_inv_go {P : zp_T} (hV : zp_V P) {s s' : zj_T} (h : zj_inv P s) (hsc : zp_sc P (zj_p s) (zj_p s')) (hv : ∀ v, v < 8 → nI (zj_v s' v) = zc_out P (fun _ w => nI (zj_v s w)) (zj_p s) v) (hw : ∀ v, v < 8 → (zj_w s v = true ∨ zp_df P (zj_p s) = some v) → zj_w s' v = true) : zj_inv P s' := by
  obtain ⟨h1, h2, h3⟩ := h
  refine ⟨zp_OP_sc hV h1 hsc, fun F hF v hv8 => ?_, fun v hv8 => ?_⟩
  · rw [hv v hv8]
    exact zc_ge_tr (zc_out_m hV h1.1 hv8 (fun w hw8 => h2 F hF w hw8)) (hF.2 _ _ h1 hsc v hv8)
  · by_cases c : zj_w s v = true ∨ zp_df P (zj_p s) = some v
    · exact Or.inl (hw v hv8 c)
    · rcases h3 v hv8 with z | z
      · exact absurd (Or.inl z) c
      · exact Or.inr ⟨hv8, zs_go z.2 ⟨hsc, fun e => c (Or.inr e)⟩⟩
theorem zc_calN (o : Nat) {a b : Nat} (ha : a < 1000) (hb : b < 1000) : zc_cal o (nI a) (nI b) = nI (zc_op o a b) := by
  unfold zc_cal
  have z1 : (0 : Int32) ≤ nI a := nI_pos' (by omega)
  have z2 : (0 : Int32) ≤ nI b := nI_pos' (by omega)
  have t : ∀ n : Nat, n < 1000 → (nI n).toNatClampNeg = n := by decide +kernel
  rw [if_pos ⟨z1, z2⟩, t a ha, t b hb]
theorem zj_inv_step {P : zp_T} (hV : zp_V P) {s : zj_T} (hok : zj_ok P s) (h : zj_inv P s) : zj_inv P (zj_step P s) := by
  have hni := hV.2.2.1
  have hp := hok.2.1
  by_cases c : zj_p s < 40
  · have hi : zj_p s < zp_ni P := by rcases hp with q | q <;> omega
    have hq := hV.2.2.2.2.2.2.2 _ hi
    have hk3 : zp_k P (zj_p s) ≤ 3 := hq.1
    have hsc : zp_sc P (zj_p s) (zp_nx P (zj_p s) 0) := ⟨hp, 0, by unfold zp_nc; rw [if_pos c]; omega, rfl⟩
    by_cases k3 : zp_k P (zj_p s) = 3
    · have ed : zp_df P (zj_p s) = none := by unfold zp_df; rw [if_neg (fun z => z.2 k3)]
      have es : zj_step P s = (zj_v s, zp_nx P (zj_p s) 0, some (zj_v s (zp_l P (zj_p s))), zj_o s, zj_w s, zj_e s) := by unfold zj_step; rw [if_pos c, if_pos k3]
      rw [es]
      refine zj_inv_go hV h hsc (fun v hv => ?_) (fun v hv z => ?_)
      · unfold zc_out
        rw [ed, if_neg (fun z => by cases z)]
        rfl
      · rcases z with z | z
        · exact z
        · rw [ed] at z; cases z
    · have ed : zp_df P (zj_p s) = some (zp_t P (zj_p s)) := by unfold zp_df; rw [if_pos ⟨c, k3⟩]
      have es : zj_step P s = (fun v => if v = zp_t P (zj_p s) then zj_res P s (zj_p s) else zj_v s v, zp_nx P (zj_p s) 0, zj_s s, zj_o s, fun v => zj_w s v || decide (v = zp_t P (zj_p s)), zj_e s) := by unfold zj_step; rw [if_pos c, if_neg k3]
      rw [es]
      refine zj_inv_go hV h hsc (fun v hv => ?_) (fun v hv z => ?_)
      · show nI (if v = zp_t P (zj_p s) then zj_res P s (zj_p s) else zj_v s v) = _
        unfold zc_out
        rw [ed]
        by_cases cv : v = zp_t P (zj_p s)
        · rw [if_pos cv, if_pos (by rw [cv])]
          unfold zj_res zc_res
          by_cases k0 : zp_k P (zj_p s) = 0
          · rw [if_pos k0, if_pos k0]
          · rw [if_neg k0, if_neg k0]
            by_cases k1 : zp_k P (zj_p s) = 1
            · rw [if_pos k1, if_pos k1]
            · rw [if_neg k1, if_neg k1]
              exact (zc_calN _ (hok.1 _ (hq.2.2.2.1 k0)) (hok.1 _ hq.2.2.2.2.2)).symm
        · rw [if_neg cv, if_neg (fun z => cv (Option.some.inj z).symm)]
      · show (zj_w s v || decide (v = zp_t P (zj_p s))) = true
        rcases z with z | z
        · rw [z]; rfl
        · rw [ed] at z
          rw [decide_eq_true (Option.some.inj z).symm, Bool.or_true]
  · have hb : zj_p s - 40 < zp_nb P := by rcases hp with q | q <;> omega
    have ed : zp_df P (zj_p s) = none := by unfold zp_df; rw [if_neg (fun z => c z.1)]
    by_cases w0 : zp_w P (zj_p s - 40) = 0
    · have es : zj_step P s = (zj_v s, zj_p s, zj_s s, true, zj_w s, zj_e s) := by unfold zj_step; rw [if_neg c, if_pos w0]
      rw [es]
      exact h
    · have hsc : zp_sc P (zj_p s) (zp_fp P (zj_way P s (zj_p s - 40))) := by
        refine ⟨hp, (if zp_w P (zj_p s - 40) = 2 ∧ zj_v s (zp_x P (zj_p s - 40)) = 0 then 1 else 0), ?_, ?_⟩
        · unfold zp_nc
          rw [if_neg c]
          exact (zj_way_lt hV (s := s) hb w0).1
        · unfold zp_nx
          rw [if_neg c]
          rfl
      have es : zj_step P s = (zj_v s, zp_fp P (zj_way P s (zj_p s - 40)), zj_s s, zj_o s, zj_w s, fun b => zj_e s b + (if b = zj_way P s (zj_p s - 40) then 1 else 0)) := by unfold zj_step; rw [if_neg c, if_neg w0]
      rw [es]
      refine zj_inv_go hV h hsc (fun v hv => ?_) (fun v hv z => ?_)
      · unfold zc_out
        rw [ed, if_neg (fun z => by cases z)]
        rfl
      · rcases z with z | z
        · exact z
        · rw [ed] at z; cases z
theorem zj_inv_run {P : zp_T} (hV : zp_V P) : ∀ n, zj_inv P (zj_run P n) := by
  intro n
  induction n with
  | zero => exact zj_inv_0 hV
  | succ n ih =>
    show zj_inv P (if zj_o (zj_run P n) = true then zj_run P n else zj_step P (zj_run P n))
    split
    · exact ih
    · exact zj_inv_step hV (zj_ok_run hV n) ih
theorem zj_inv_F {P : zp_T} {s : zj_T} (h : zj_inv P s) (hok : zj_ok P s) {F : Nat → Nat → Int32} (hF : zc_top P F) {v : Nat} (hv : v < 8) : F (zj_p s) v = nI (zj_v s v) ∨ F (zj_p s) v = -1 := by
  have hx := hok.1 v hv
  rcases h.2.1 F hF.1 v hv with z | z | z
  · exact absurd z (zb_n2 hx)
  · exact Or.inl z.symm
  · exact Or.inr z
section ZCZ
variable {M : mm_T} {P : zp_T}
theorem zj_conA (q : zc_Q M P) (k : zk_N M) (zd : zd_C M P) {s : zj_T} (hs : zj_H M s) (hok : zj_ok P s) (hi : zj_inv P s) : ff_N_contradicts_a 38 35 M = some 0 := by
  have hV := q.2.1.2.2
  have p52 := zp_pt_lt hV hok.2.1
  unfold ff_N_contradicts_a
  rw [zq_gd (zj_e38 k)]
  refine zh_is (zh_up (F := fun fu i (_ : Unit) => lf_N_contradicts_a_2 38 35 M fu i) (Q := fun y => y = 0) 8 (fun _ _ => True) ?_ ?_ fu_L 0 () (Nat.zero_le _) (by rw [zs_fuel]; omega) trivial)
  · intro fu v s' hv _ kk
    show zh_H (lb_N_contradicts_a_2 38 35 M (lf_N_contradicts_a_2 38 35 M fu) (nI v)) _
    unfold lb_N_contradicts_a_2
    rw [if_neg (show ¬ (8 : Int32) ≤ nI v from nI_ge (b := 8) hv (by omega)), zg_I (zj_e38 k), Option.bind_some, hs.2.2.2.1, zn_cst q zd p52 hv, Option.bind_some]
    simp only [zq_jp, Option.bind_some, nI_1]
    have e := zp_CT_eq zd.1 p52 hv
    have hx := hok.1 v hv
    by_cases c : zp_cst P (zj_p s) v = -1
    · rw [if_pos c]
      exact kk () trivial
    · rw [if_neg c, zg_R (zj_e38 k), Option.bind_some, k.2.1.1, zj_at k hs hv, Option.bind_some]
      have ev : zp_cst P (zj_p s) v = nI (zj_v s v) := by
        unfold zp_cst at c ⊢
        rw [e] at c ⊢
        rcases zj_inv_F hi hok zd.1 hv with z | z
        · rw [z, if_neg (zb_n2 hx)]
        · rw [z, if_neg (by decide)] at c
          exact absurd rfl c
      rw [if_pos ev]
      exact kk () trivial
  · intro fu s' _
    show zh_H (lb_N_contradicts_a_2 38 35 M (lf_N_contradicts_a_2 38 35 M fu) (nI 8)) _
    unfold lb_N_contradicts_a_2
    rw [if_pos (show (8 : Int32) ≤ nI 8 from nI_le (a := 8) (Nat.le_refl _) (by omega))]
    exact zh_some rfl
theorem zj_conB (q : zc_Q M P) (k : zk_N M) (zd : zd_R M P) {s : zj_T} (hs : zj_H M s) (hok : zj_ok P s) (hi : zj_inv P s) : ff_N_contradicts_b 38 24 M = some 0 := by
  have hV := q.2.1.2.2
  have p52 := zp_pt_lt hV hok.2.1
  have e24 : (mm_k M 24).1 = 8 := by rw [q.2.2.1.2.1.1]
  have ei : ff_R_initialsAt 24 (nI (zj_p s)) M = some (mm_I M 26 (zj_p s)) := by
    unfold ff_R_initialsAt
    rw [zq_gd e24, zg_R e24, Option.bind_some, q.2.2.1.2.1.2.1.2.1, zd_at q.2.2.1.2.1.2.2.2.1 p52 (by omega), Option.bind_some]
  unfold ff_N_contradicts_b
  rw [zq_gd (zj_e38 k), zg_I (zj_e38 k), Option.bind_some, hs.2.2.2.1, ei, Option.bind_some, zg_I (zj_e38 k), Option.bind_some, if_pos]
  refine b_ext fun i hi32 => ?_
  rw [b_and, b_or, b_255]
  by_cases c : i < 8
  · rw [hs.2.2.1 i c]
    rcases hi.2.2 i c with z | z
    · rw [z, Bool.or_true, Bool.true_and]
    · rw [(zd.2.1 _ p52 i hi32).mpr z, Bool.true_or, Bool.true_and]
  · rw [decide_eq_false c, Bool.and_false]
theorem zc_auditDifference (h : zc_Q M P) (k : zk_N M) : zc_I (ff_D_auditDifference 1 M) M P 0 := by
  have hV := h.2.1.2.2
  obtain ⟨M1, e1, f1, q1, c1⟩ := zc_constants h
  obtain ⟨M2, e2, f2, q2, r2⟩ := zc_reaching q1
  have k2 : zk_N M2 := (k.keep f1).keep f2
  have c2 : zd_C M2 P := c1.keepL (zl_F f2) (fun a q => by unfold zd_A at q; omega)
  obtain ⟨M3, e3, f3, s3, -⟩ := zj_start k2 q2.2.1.1 q2.2.1.2.1 hV
  have f02 : zf_F M M2 zc_A := zf_tr f1 (zd_zc f2)
  unfold ff_D_auditDifference
  rw [zq_gd (zc_e1 h)]
  unfold bd_2
  rw [e1, Option.bind_some]
  show zc_I ((ff_D_reaching 1 M1).bind _) M P 0
  rw [e2, Option.bind_some]
  show zc_I ((gf_R M2 1 10 11).bind _) M P 0
  rw [zg_R (zc_e1 q2), Option.bind_some, q2.1.2.2.2.2.2.2.2.2.2.2.2.2, zg_R (zc_e1 q2), Option.bind_some, q2.1.2.1, e3, Option.bind_some]
  show zc_I (lf_D_auditDifference_26 1 35 24 fu_L 0 0 M3) M P 0
  suffices goal : zh_H (lf_D_auditDifference_26 1 35 24 fu_L 0 0 M3) (fun y => ∃ N, y = (0, N) ∧ zf_F M2 N zj_A) by
    obtain ⟨y, e, N, rfl, f⟩ := goal
    exact ⟨N, e, zf_tr f02 (zj_zc f), q2.keepL (zl_F f) (fun a q => by unfold zj_A at q; omega)⟩
  refine zh_up (F := fun fu i N => lf_D_auditDifference_26 1 35 24 fu 0 i N) 200 (fun i N => zf_F M2 N zj_A ∧ zj_H N (zj_run P i)) ?_ ?_ fu_L 0 M3 (Nat.zero_le _) (by rw [zs_fuel]; omega) ⟨f3, s3⟩
  · intro fu i N hi ⟨g1, g2⟩ kk
    have kN := k2.keep g1
    have qN : zc_Q N P := q2.keepL (zl_F g1) (fun a q => by unfold zj_A at q; omega)
    have cN : zd_C N P := c2.keepL (zl_F g1) (fun a q => by unfold zj_A at q; omega)
    have rN : zd_R N P := r2.keepL (zl_F g1) (fun a q => by unfold zj_A at q; omega)
    show zh_H (lb_D_auditDifference_26 1 35 24 (lf_D_auditDifference_26 1 35 24 fu) 0 (nI i) N) _
    unfold lb_D_auditDifference_26
    rw [if_neg (show ¬ (200 : Int32) ≤ nI i from nI_ge (b := 200) hi (by omega))]
    simp only [zg_R (zc_e1 qN), Option.bind_some, qN.1.2.2.2.2.2.2.2.2.2.2.2.2, zg_I (zj_e38 kN), g2.2.2.2.2.2, zj_conA qN kN cN g2 (zj_ok_run hV i) (zj_inv_run hV i), zj_conB qN kN rN g2 (zj_ok_run hV i) (zj_inv_run hV i), zq_jp, qN.1.2.1]
    cases eo : zj_o (zj_run P i) with
    | true =>
      rw [if_neg (by decide)]
      exact zh_some ⟨N, rfl, g1⟩
    | false =>
      obtain ⟨N2, e4, f4, h4, -⟩ := zj_stepC kN g2 qN.2.1.1 qN.2.1.2.1 hV (zj_ok_run hV i)
      have r1 : zj_run P (i + 1) = zj_step P (zj_run P i) := by
        show (if zj_o (zj_run P i) = true then zj_run P i else zj_step P (zj_run P i)) = _
        rw [if_neg (by rw [eo]; decide)]
      rw [if_pos (by decide), if_pos trivial, if_pos trivial, e4, Option.bind_some, nI_1]
      exact kk N2 ⟨zf_tr g1 f4, by rw [r1]; exact h4⟩
  · intro fu N ⟨g1, g2⟩
    show zh_H (lb_D_auditDifference_26 1 35 24 (lf_D_auditDifference_26 1 35 24 fu) 0 (nI 200) N) _
    unfold lb_D_auditDifference_26
    rw [if_pos (show (200 : Int32) ≤ nI 200 from nI_le (a := 200) (Nat.le_refl _) (by omega))]
    exact zh_some ⟨N, rfl, g1⟩
end ZCZ
