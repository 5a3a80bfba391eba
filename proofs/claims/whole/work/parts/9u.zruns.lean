/-! ===== the class's machine: leaving a block; a step ===== -/
section ZRU
variable {M : mm_T} {P : zp_T}
theorem zj_leave (h : zk_N M) {s : zj_T} (hs : zj_H M s) (hP : zo_P M 45) (hH : zo_H M 45 P) (hV : zp_V P) {b : Nat} (hb : b < zp_nb P) (hp : zj_p s = 40 + b) (hok : ∀ v, v < 8 → zj_v s v < 1000) : ∃ M', ff_N_leaveBlock 38 45 (nI b) M = some M' ∧ zf_F M M' zj_A ∧ zj_H M' (zj_step P s) ∧ mm_I M' 38 4 = mm_I M 38 4 := by
  have hnb := hV.2.1
  have hw2 := zp_w_le hV hb
  have e38 := zj_e38 h
  have hp40 : ¬ zj_p s < 40 := by omega
  have hpb : zj_p s - 40 = b := by omega
  have go : ∀ k, k < zp_w P b → ∃ M', ((ff_P_wayOf 45 (nI b) (nI k) M).bind fun x5 => (gf_R M 38 5 1).bind fun x6 => (gf_R M 38 5 1).bind fun x7 => (ff_D_at_a x7 x5 M).bind fun x8 => (ff_D_put_a x6 x5 (x8 + (1 : Int32)) M).bind fun M1 => (ff_P_firstPoint 45 x5 M1).bind fun x9 => (pf_I M1 38 5 3 x9).bind fun M2 => some M2) = some M' ∧ zf_F M M' zj_A ∧ zj_H M' (zj_v s, zp_fp P (zp_way P b k), zj_s s, zj_o s, zj_w s, fun c => zj_e s c + (if c = zp_way P b k then 1 else 0)) ∧ mm_I M' 38 4 = mm_I M 38 4 := by
    intro k hk
    have hy := zp_way_lt hV hb hk
    generalize ey : zp_way P b k = y at hy
    have f1 : zf_F M (mm_sI M 40 y (nI (zj_e s y + 1))) (fun x => x = 40) := zf_I (A := fun x => x = 40) rfl _ _
    have f1' : zf_F M (mm_sI M 40 y (nI (zj_e s y + 1))) zj_A := zf_mono f1 (fun a q => by unfold zj_A; omega)
    have k1 := h.keep f1
    have e38' := zj_e38 k1
    have hP1 := hP.keep f1
    have hH1 : zo_H (mm_sI M 40 y (nI (zj_e s y + 1))) 45 P := hH.keep (fun a q1 q2 k => zf_i f1 (by omega) k)
    refine ⟨mm_sI (mm_sI M 40 y (nI (zj_e s y + 1))) 38 3 (nI (zp_fp P y)), ?_, zf_tr f1' (zf_I (by unfold zj_A; omega) _ _), ?_, ?_⟩
    · rw [zr_wayOf hP hH hV hb hk, Option.bind_some, ey]
      simp only [zg_R e38, Option.bind_some, h.2.1.2]
      rw [zd_at h.2.2.2 (show y < 12 by omega) (by omega), Option.bind_some, hs.2.1 y (by omega), nI_1, zd_put h.2.2.2 (show y < 12 by omega) (by omega), Option.bind_some, zr_firstPoint hP1 hH1 hV hy, Option.bind_some, zp_I e38', Option.bind_some]
    · obtain ⟨h1, h2, h3, h4, h5, h6⟩ := hs
      refine ⟨fun v hv => ?_, fun c hc => ?_, fun v hv => ?_, ?_, ?_, ?_⟩
      · rw [zm_II, if_neg (by omega), zm_II, if_neg (by omega)]; exact h1 v hv
      · rw [zm_II, if_neg (by omega), zm_II]
        show _ = nI (zj_e s c + (if c = y then 1 else 0))
        by_cases q : c = y
        · rw [if_pos ⟨rfl, q⟩, if_pos q, q]
        · rw [if_neg (fun z => q z.2), if_neg q, Nat.add_zero]
          exact h2 c hc
      · rw [zm_II, if_neg (by omega), zm_II, if_neg (by omega)]; exact h3 v hv
      · rw [zm_II, if_pos ⟨rfl, rfl⟩]; rfl
      · rw [zm_II, if_neg (by omega), zm_II, if_neg (by omega)]; exact h5
      · rw [zm_II, if_neg (by omega), zm_II, if_neg (by omega)]; exact h6
    · rw [zm_II, if_neg (by omega), zm_II, if_neg (by omega)]
  unfold ff_N_leaveBlock zj_step
  rw [zq_gd e38, zr_wayCount hP hH hV hb, Option.bind_some, if_neg hp40, hpb]
  by_cases w0 : zp_w P b = 0
  · rw [w0, if_pos nI_0, if_pos rfl, zp_Z1 e38, Option.bind_some]
    refine ⟨_, rfl, zf_I (by unfold zj_A; omega) _ _, ?_, by rw [zm_II, if_neg (by omega)]⟩
    obtain ⟨h1, h2, h3, h4, h5, h6⟩ := hs
    refine ⟨fun v hv => ?_, fun c hc => ?_, fun v hv => ?_, ?_, ?_, ?_⟩
    · rw [zm_II, if_neg (by omega)]; exact h1 v hv
    · rw [zm_II, if_neg (by omega)]; exact h2 c hc
    · rw [zm_II, if_neg (by omega)]; exact h3 v hv
    · rw [zm_II, if_neg (by omega)]; exact h4
    · rw [zm_II, if_neg (by omega)]; exact h5
    · rw [zm_II, if_pos ⟨rfl, rfl⟩]; rfl
  · rw [if_neg (nI_ne0 (by omega) (by omega)), if_neg w0, Option.bind_some]
    simp only [zq_jp]
    unfold zj_way
    by_cases c2 : zp_w P b = 2
    · have hx := zp_x_lt hV hb c2
      have hvx := hok _ hx
      rw [if_pos (show nI (zp_w P b) = (2 : Int32) by rw [c2]; rfl), zg_R e38, Option.bind_some, h.2.1.1, zr_testedBy hP hH hV hb c2, Option.bind_some, zj_at h hs hx, Option.bind_some]
      by_cases z : zj_v s (zp_x P b) = 0
      · rw [if_pos (show nI (zj_v s (zp_x P b)) = 0 by rw [z]; rfl), if_neg (by decide), if_pos ⟨c2, z⟩]
        exact go 1 (by omega)
      · rw [if_neg (nI_ne0 (by omega) (by omega)), if_pos trivial, if_neg (fun w => z w.2)]
        exact go 0 (by omega)
    · rw [if_neg (show ¬ nI (zp_w P b) = (2 : Int32) from fun z => c2 ((nI_eq (b := 2) (by omega) (by omega)).mp z)), if_pos trivial, if_neg (fun z => c2 z.1)]
      exact go 0 (by omega)
theorem zj_stepC (h : zk_N M) {s : zj_T} (hs : zj_H M s) (hP : zo_P M 45) (hH : zo_H M 45 P) (hV : zp_V P) (hok : zj_ok P s) : ∃ M', ff_N_step 38 45 M = some M' ∧ zf_F M M' zj_A ∧ zj_H M' (zj_step P s) ∧ mm_I M' 38 4 = mm_I M 38 4 + 1 := by
  have hni := hV.2.2.1
  have e38 := zj_e38 h
  have f1 : zf_F M (mm_sI M 38 4 (mm_I M 38 4 + 1)) zj_A := zf_I (by unfold zj_A; omega) _ _
  have h1 := h.keep f1
  have hs1 : zj_H (mm_sI M 38 4 (mm_I M 38 4 + 1)) s := by
    obtain ⟨h1, h2, h3, h4, h5, h6⟩ := hs
    refine ⟨fun v hv => ?_, fun c hc => ?_, fun v hv => ?_, ?_, ?_, ?_⟩
    · rw [zm_II, if_neg (by omega)]; exact h1 v hv
    · rw [zm_II, if_neg (by omega)]; exact h2 c hc
    · rw [zm_II, if_neg (by omega)]; exact h3 v hv
    · rw [zm_II, if_neg (by omega)]; exact h4
    · rw [zm_II, if_neg (by omega)]; exact h5
    · rw [zm_II, if_neg (by omega)]; exact h6
  have n1 : mm_I (mm_sI M 38 4 (mm_I M 38 4 + 1)) 38 4 = mm_I M 38 4 + 1 := by rw [zm_II, if_pos ⟨rfl, rfl⟩]
  have hP1 := hP.keep f1
  have hH1 : zo_H (mm_sI M 38 4 (mm_I M 38 4 + 1)) 45 P := hH.keep (fun a q1 q2 k => zf_i f1 (by unfold zj_A; omega) k)
  unfold ff_N_step
  rw [zq_gd e38, zg_I e38, Option.bind_some, zp_I e38, Option.bind_some]
  generalize mm_sI M 38 4 (mm_I M 38 4 + 1) = N at f1 h1 hs1 n1 hP1 hH1 ⊢
  have e38' := zj_e38 h1
  rw [zg_I e38', Option.bind_some, hs1.2.2.2.1, zr_kindAt hP1 hH1 hV hok.2.1, Option.bind_some]
  by_cases c : zj_p s < 40
  · have hi : zj_p s < zp_ni P := by rcases hok.2.1 with q | q <;> omega
    have hk3 : zp_k P (zj_p s) ≤ 3 := (hV.2.2.2.2.2.2.2 _ hi).1
    rw [if_pos c, if_neg (zi_n1 (by omega)), Option.bind_some, zr_word hP1 hH1 hV hi, Option.bind_some]
    obtain ⟨N2, e2, f2, h2, n2⟩ := zj_execute h1 hs1 hV hok.1 hi
    have k2 := h1.keep f2
    have e38'' := zj_e38 k2
    have hP2 := hP1.keep f2
    have hH2 : zo_H N2 45 P := hH1.keep (fun a q1 q2 k => zf_i f2 (by unfold zj_A; omega) k)
    have ep : zj_p (zj_ex P s (zj_p s)) = zj_p s := by unfold zj_ex; split <;> rfl
    rw [e2, Option.bind_some, zg_I e38'', Option.bind_some, h2.2.2.2.1, ep, show (0 : Int32) = nI 0 from rfl, zr_nextPoint hP2 hH2 hV hok.2.1 (by unfold zp_nc; rw [if_pos c]; omega), Option.bind_some, zp_I e38'', Option.bind_some]
    refine ⟨_, rfl, zf_tr f1 (zf_tr f2 (zf_I (by unfold zj_A; omega) _ _)), ?_, by rw [zm_II, if_neg (by omega), n2, n1]⟩
    obtain ⟨h1, h2, h3, h4, h5, h6⟩ := h2
    have es : zj_step P s = (zj_v (zj_ex P s (zj_p s)), zp_nx P (zj_p s) 0, zj_s (zj_ex P s (zj_p s)), zj_o (zj_ex P s (zj_p s)), zj_w (zj_ex P s (zj_p s)), zj_e (zj_ex P s (zj_p s))) := by
      unfold zj_step zj_ex
      rw [if_pos c]
      by_cases k3 : zp_k P (zj_p s) = 3
      · rw [if_pos k3, if_pos k3]; rfl
      · rw [if_neg k3, if_neg k3]; rfl
    rw [es]
    refine ⟨fun v hv => ?_, fun c hc => ?_, fun v hv => ?_, ?_, ?_, ?_⟩
    · rw [zm_II, if_neg (by omega)]; exact h1 v hv
    · rw [zm_II, if_neg (by omega)]; exact h2 c hc
    · rw [zm_II, if_neg (by omega)]; exact h3 v hv
    · rw [zm_II, if_pos ⟨rfl, rfl⟩]; rfl
    · rw [zm_II, if_neg (by omega)]; exact h5
    · rw [zm_II, if_neg (by omega)]; exact h6
  · have hb : zj_p s - 40 < zp_nb P := by rcases hok.2.1 with q | q <;> omega
    have ebp : zp_bp P (zj_p s) = zj_p s - 40 := by unfold zp_bp; rw [if_neg c]
    rw [if_neg c, if_pos rfl, Option.bind_some, zr_blockAt hP1 hH1 hV hok.2.1, Option.bind_some, ebp]
    obtain ⟨N2, e2, f2, h2, n2⟩ := zj_leave h1 hs1 hP1 hH1 hV hb (by omega) hok.1
    rw [e2, Option.bind_some]
    exact ⟨N2, rfl, zf_tr f1 f2, h2, by rw [n2, n1]⟩
end ZRU
