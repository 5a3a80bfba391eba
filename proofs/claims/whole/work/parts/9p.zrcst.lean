/-! ===== answers on constants, both sides ===== -/
theorem zc_top_step {P : zp_T} (hV : zp_V P) {F : Nat → Nat → Int32} (hF : zc_top P F) {i v : Nat} (hi : i < zp_ni P) (hr : zp_RB P (zp_bk P i)) (hv : v < 8) : F (zp_pl P (zp_bk P i) (i + 1)) v = zc_out P F i v := by
  have hni := hV.2.2.1
  have hlo := zp_bk_lo hV hi
  have hhi := zp_bk_hi hV hi
  have hbl := zp_bk_lt hV hi
  have hT : zc_top P (zb_F P (fun b v => F (zp_fp P b) v)) := by
    refine zb_top hV (fun b hb v hv => hF.2.2.2 _ (zp_fp52 hV hb) v hv) hF.1.1 (fun b hb y hy v hv => ?_) (fun G hG b hb v hv => hF.2.1 G hG _ ⟨zp_fp_pt hV (zp_RB_lt hV hb), by rw [zp_bp_fp hV (zp_RB_lt hV hb)]; exact hb⟩ v hv)
    have hbn := zp_RB_lt hV hb
    have hse := hV.2.2.2.2.1 b hbn
    have s := zb_st_ge hV (K := fun b v => F (zp_fp P b) v) hF.1 hb (fun v _ => zc_ge_rfl _) (zp_st P (b + 1) - zp_st P b) (by omega) v hv
    have epl : zp_pl P b (zp_st P b + (zp_st P (b + 1) - zp_st P b)) = 40 + b := by
      rw [show zp_st P b + (zp_st P (b + 1) - zp_st P b) = zp_st P (b + 1) by omega]
      unfold zp_pl
      rw [if_neg (Nat.lt_irrefl _)]
    rw [epl] at s
    have op : zp_OP P (40 + b) := ⟨Or.inr ⟨by omega, by omega⟩, by
      have : zp_bp P (40 + b) = b := by unfold zp_bp; rw [if_neg (by omega)]; omega
      rw [this]; exact hb⟩
    have t := hF.1.2 _ _ op (zp_sc_out hV hy) v hv
    have nd : zc_out P F (40 + b) v = F (40 + b) v := by
      unfold zc_out
      rw [if_neg (fun z => by
        unfold zp_df at z
        rw [if_neg (fun w => by have := w.1; omega)] at z
        cases z)]
    rw [nd] at t
    exact zc_ge_tr s t
  obtain ⟨a1, a2, a3⟩ := zp_pl_all hV hbl (k := i + 1) (by omega) (by omega)
  have epl : zp_pl P (zp_bk P i) i = i := by unfold zp_pl; rw [if_pos hhi]
  have eI : ∀ w, w < 8 → zb_st P (fun b v => F (zp_fp P b) v) (zp_bk P i) (i - zp_st P (zp_bk P i)) w = F i w := by
    intro w hw
    have e := zc_top_one hF hT (show i < 52 by omega) hw
    have := zb_F_pl hV (K := fun b v => F (zp_fp P b) v) hr hlo (show i ≤ zp_st P (zp_bk P i + 1) by omega) w
    rw [epl] at this
    rw [e, this]
  rw [zc_top_one hF hT (zp_pt_lt hV a1) hv, zb_F_pl hV hr (by omega) (by omega), show i + 1 - zp_st P (zp_bk P i) = (i - zp_st P (zp_bk P i)) + 1 by omega]
  show zc_out P (fun _ w => zb_st P (fun b v => F (zp_fp P b) v) (zp_bk P i) (i - zp_st P (zp_bk P i)) w) (zp_st P (zp_bk P i) + (i - zp_st P (zp_bk P i))) v = _
  rw [show zp_st P (zp_bk P i) + (i - zp_st P (zp_bk P i)) = i by omega]
  refine zc_ge_an (zc_out_m hV (p := i) (Or.inl hi) hv (fun w hw => ?_)) (zc_out_m hV (p := i) (Or.inl hi) hv (fun w hw => ?_))
  · show zc_ge (zb_st P _ _ _ w) (F i w)
    rw [eI w hw]
    exact zc_ge_rfl _
  · show zc_ge (F i w) (zb_st P _ _ _ w)
    rw [eI w hw]
    exact zc_ge_rfl _
noncomputable def zv_constantAt (P : zp_T) (a v : Int32) : Nat × Int32 := if zi_A (zp_nb P) a then (if zi_A 8 v then (0, zp_cst P (zp_fp P (zi_n a)) (zi_n v)) else (2, 0)) else (1, 0)
noncomputable def zp_cof (P : zp_T) (i : Nat) : Int32 := match zp_df P i with
  | none => -1
  | some t => zp_cst P (zp_pl P (zp_bk P i) (i + 1)) t
noncomputable def zv_constantOf (P : zp_T) (a : Int32) : Nat × Int32 := if zi_A (zp_ni P) a then (0, zp_cof P (zi_n a)) else (1, 0)
noncomputable def zp_dc (P : zp_T) (b : Nat) : Bool := decide (zp_w P b = 2) && !decide (zp_cst P (40 + b) (zp_x P b) = -1)
noncomputable def zv_decided (P : zp_T) : Nat := fb_ct (zp_dc P) (zp_nb P)
theorem zi_max2 {x : Int32} (h : zc_W x) (M : mm_T) : ff_JM_max x (-1) M = some (if x = -2 then -1 else x) := by
  unfold ff_JM_max
  rcases h with rfl | rfl | ⟨c, hc, rfl⟩
  · rfl
  · rfl
  · have : ∀ c, c < 1000 → ¬ nI c < (-1 : Int32) := by decide +kernel
    rw [if_neg (this c hc), if_neg (zb_n2 hc)]
theorem zp_x_lt {P : zp_T} (hV : zp_V P) {b : Nat} (hb : b < zp_nb P) (hw : zp_w P b = 2) : zp_x P b < 8 := ((hV.2.2.2.2.2.2.1 b hb).2.2 hw).1
section ZCP
variable {M : mm_T} {P : zp_T}
theorem zn_e35 (q : zc_Q M P) : (mm_k M 35).1 = 1 := by rw [q.2.2.1.2.2.2.2.1]
theorem zn_cst (q : zc_Q M P) (zd : zd_C M P) {p v : Nat} (hp : p < 52) (hv : v < 8) : ff_C_constantBefore 35 (nI p) (nI v) M = some (zp_cst P p v) := by
  unfold ff_C_constantBefore zp_cst
  rw [zq_gd (zn_e35 q), zn_state q.2.2.1.2.2.2.2 hp hv, Option.bind_some, zi_max2 (zd.1.2.2.2 p hp v hv), Option.bind_some, zp_CT_eq zd.1 hp hv]
theorem zc_constantAt (h : zc_Q M P) (a v : Int32) : zc_O (ff_D_constantAt 1 a v M) M P (zr_c ["java/lang/IndexOutOfBoundsException", "java/lang/IllegalArgumentException"] (zv_constantAt P a v)) := by
  have hV := h.2.1.2.2
  unfold ff_D_constantAt zv_constantAt
  rw [zq_gd (zc_e1 h)]
  refine zc_rq h (zc_reqB h a) rfl (fun c => zc_rq h (zc_reqV v M) rfl (fun c2 => ?_))
  obtain ⟨hb, ea⟩ := zi_An c
  obtain ⟨hv, ev⟩ := zi_An c2
  generalize zi_n a = b at hb ea
  generalize zi_n v = w at hv ev
  subst ea ev
  obtain ⟨M', e, f, q, zd⟩ := zc_constants h
  have h52 := zp_fp52 hV hb
  unfold bd_2
  rw [e, Option.bind_some]
  show zc_O ((gf_R M' 1 10 0).bind _) M P _
  rw [zg_R (zc_e1 q), Option.bind_some, q.1.2.1, zr_firstPoint q.2.1.1 q.2.1.2.1 hV hb, Option.bind_some]
  show zc_O ((ff_C_constantBefore 35 (nI (zp_fp P b)) (nI w) M').bind _) M P _
  rw [zn_cst q zd h52 hv, Option.bind_some]
  exact zc_ret f q
theorem zc_constantOf (h : zc_Q M P) (a : Int32) : zc_O (ff_D_constantOf 1 a M) M P (zr_c ["java/lang/IndexOutOfBoundsException"] (zv_constantOf P a)) := by
  have hV := h.2.1.2.2
  have hni := hV.2.2.1
  unfold ff_D_constantOf zv_constantOf
  rw [zq_gd (zc_e1 h)]
  refine zc_rq h (zc_reqI h a) rfl (fun c => ?_)
  obtain ⟨hi, ea⟩ := zi_An c
  generalize zi_n a = i at hi ea
  subst ea
  obtain ⟨M', e, f, q, zd⟩ := zc_constants h
  have hC := q.2.2.1.2.2.2.2
  have hbp : zp_bp P i = zp_bk P i := by unfold zp_bp; rw [if_pos (by omega)]
  unfold bd_2
  rw [e, Option.bind_some]
  show zc_O ((ff_C_constantGiven 35 (nI i) M').bind _) M P _
  have key : ff_C_constantGiven 35 (nI i) M' = some (zp_cof P i) := by
    unfold ff_C_constantGiven
    rw [zq_gd (zn_e35 q), zg_R (zn_e35 q), Option.bind_some, hC.2.1.2, zd_at hC.2.2.2 (show i < 40 by omega) (by omega), Option.bind_some]
    obtain ⟨z1, z2⟩ := zd.2 i (by omega)
    unfold zp_cof
    cases ed : zp_df P i with
    | none =>
      rw [z2 (fun w => w.2.2 ed), zi_max2 (Or.inl rfl), if_pos rfl, Option.bind_some]
    | some t =>
      have ht : t < 8 := zp_df_lt hV (Or.inl hi) ed
      have pt := (zp_pl_all hV (zp_bk_lt hV hi) (k := i + 1) (by have := zp_bk_lo hV hi; omega) (by have := zp_bk_hi hV hi; omega))
      have p52 := zp_pt_lt hV pt.1
      unfold zp_cst
      dsimp only
      rw [zp_CT_eq zd.1 p52 ht]
      by_cases co : zp_OP P i
      · have hr : zp_RB P (zp_bk P i) := by rw [← hbp]; exact co.2
        rw [z1 hi co (by rw [ed]; simp), zc_top_step hV zd.1 hi hr ht]
        have eo : zc_out P (zn_F M') i t = zc_res P (zn_F M') i := by
          unfold zc_out
          rw [if_pos ed]
        rw [eo, zi_max2 (zc_res_W hV hi (fun v hv => zd.1.2.2.2 i (by omega) v hv)), Option.bind_some]
      · rw [z2 (fun w => co w.2.1), zd.1.2.2.1 _ p52 (fun w => co ⟨Or.inl hi, by rw [hbp]; have := w.2; rw [pt.2.1] at this; exact this⟩) t ht, zi_max2 (Or.inl rfl), Option.bind_some]
  rw [key, Option.bind_some]
  exact zc_ret f q
theorem zn_decided (q : zc_Q M P) (zd : zd_C M P) : ff_C_countDecided 35 45 M = some (nI (zv_decided P)) := by
  have hV := q.2.1.2.2
  have hnb := hV.2.1
  have hP := q.2.1.1
  unfold ff_C_countDecided
  rw [zq_gd (zn_e35 q)]
  refine zh_is (zh_up (F := fun fu i (x : Int32) => lf_C_countDecided_4 35 45 M fu x i) (Q := fun y => y = nI (zv_decided P)) (zp_nb P) (fun i x => x = nI (fb_ct (zp_dc P) i)) ?_ ?_ fu_L 0 0 (Nat.zero_le _) (by rw [zs_fuel]; omega) rfl)
  · intro fu b x hb hx k
    have hw2 := zp_w_le hV hb
    show zh_H (lb_C_countDecided_4 35 45 M (lf_C_countDecided_4 35 45 M fu) x (nI b)) _
    unfold lb_C_countDecided_4
    rw [zr_blocks q.2.1.1 q.2.1.2.1, Option.bind_some, if_neg (nI_ge hb (by omega)), zr_wayCount q.2.1.1 q.2.1.2.1 hV hb, Option.bind_some]
    simp only [zq_jp, Option.bind_some, nI_1]
    by_cases c : zp_w P b = 2
    · have hx8 := zp_x_lt hV hb c
      unfold ff_P_exitPoint
      rw [if_pos (show nI (zp_w P b) = (2 : Int32) by rw [c]; rfl), if_neg (by decide), zq_gd (by rw [hP.1]), Option.bind_some, show (40 : Int32) = nI 40 from rfl, nI_add, zr_testedBy q.2.1.1 q.2.1.2.1 hV hb c, Option.bind_some, zn_cst q zd (show 40 + b < 52 by omega) hx8, Option.bind_some]
      by_cases d : zp_cst P (40 + b) (zp_x P b) = -1
      · rw [if_pos d]
        refine k _ ?_
        rw [fb_ct_succ, hx]
        unfold zp_dc
        rw [decide_eq_true c, decide_eq_true d]
        rfl
      · rw [if_neg d, hx, nI_1]
        refine k _ ?_
        rw [fb_ct_succ]
        unfold zp_dc
        rw [decide_eq_true c, decide_eq_false d]
        rfl
    · rw [if_neg (show ¬ nI (zp_w P b) = (2 : Int32) from fun z => c ((nI_eq (b := 2) (by omega) (by omega)).mp z)), if_pos (by decide)]
      refine k _ ?_
      rw [fb_ct_succ, hx]
      unfold zp_dc
      rw [decide_eq_false c]
      rfl
  · intro fu x hx
    show zh_H (lb_C_countDecided_4 35 45 M (lf_C_countDecided_4 35 45 M fu) x (nI (zp_nb P))) _
    unfold lb_C_countDecided_4
    rw [zr_blocks q.2.1.1 q.2.1.2.1, Option.bind_some, if_pos (nI_le (Nat.le_refl _) (by omega)), hx]
    exact zh_some rfl
theorem zc_decidedBranches (h : zc_Q M P) : zc_I (ff_D_decidedBranches 1 M) M P (nI (zv_decided P)) := by
  unfold ff_D_decidedBranches
  rw [zq_gd (zc_e1 h)]
  obtain ⟨M', e, f, q, zd⟩ := zc_constants h
  unfold bd_2
  rw [e, Option.bind_some]
  show zc_I ((gf_R M' 1 10 0).bind _) M P _
  rw [zg_R (zc_e1 q), Option.bind_some, q.1.2.1]
  show zc_I ((ff_C_countDecided 35 45 M').bind _) M P _
  rw [zn_decided q zd, Option.bind_some]
  exact ⟨M', rfl, f, q⟩
end ZCP
