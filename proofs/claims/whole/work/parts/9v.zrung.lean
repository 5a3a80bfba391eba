/-! ===== the class's machine: a run ===== -/
theorem zj_stay {P : zp_T} {i : Nat} (h : zj_o (zj_run P i) = true) : ∀ d, zj_run P (i + d) = zj_run P i ∧ zj_n P (i + d) = zj_n P i := by
  intro d
  induction d with
  | zero => exact ⟨rfl, rfl⟩
  | succ d ih =>
    have e1 : zj_run P (i + d + 1) = if zj_o (zj_run P (i + d)) = true then zj_run P (i + d) else zj_step P (zj_run P (i + d)) := rfl
    have e2 : zj_n P (i + d + 1) = if zj_o (zj_run P (i + d)) = true then zj_n P (i + d) else zj_n P (i + d) + 1 := rfl
    rw [ih.1] at e1 e2
    rw [if_pos h] at e1 e2
    exact ⟨e1, e2.trans ih.2⟩
section ZRV
variable {M : mm_T} {P : zp_T}
theorem zj_start (h : zk_N M) (hP : zo_P M 45) (hH : zo_H M 45 P) (hV : zp_V P) : ∃ M', ff_N_start 38 45 M = some M' ∧ zf_F M M' zj_A ∧ zj_H M' (zj_0 P) ∧ mm_I M' 38 4 = 0 := by
  have e38 := zj_e38 h
  unfold ff_N_start
  rw [zq_gd e38, zg_R e38, Option.bind_some, h.2.1.1]
  obtain ⟨M1, e1, f1, -, r1⟩ := zf_fillI h.2.2.1 (by omega) 0
  rw [e1, Option.bind_some]
  have k1 := h.keep f1
  rw [zg_R (zj_e38 k1), Option.bind_some, k1.2.1.2]
  obtain ⟨M2, e2, f2, -, r2⟩ := zf_fillI k1.2.2.2 (by omega) 0
  rw [e2, Option.bind_some]
  have k2 := k1.keep f2
  have w2 : ff_D_put_a 40 0 1 M2 = some (mm_sI M2 40 0 1) := zd_put (j := 0) k2.2.2.2 (by omega) (by omega) 1
  rw [zg_R (zj_e38 k2), Option.bind_some, k2.2.1.2, w2, Option.bind_some]
  have f3 : zf_F M2 (mm_sI M2 40 0 1) zj_A := zf_I (by unfold zj_A; omega) _ _
  have f03 : zf_F M (mm_sI M2 40 0 1) zj_A := zf_tr (zf_mono f1 (fun a q => by unfold zj_A; omega)) (zf_tr (zf_mono f2 (fun a q => by unfold zj_A; omega)) f3)
  have k3 := h.keep f03
  have f4 : zf_F (mm_sI M2 40 0 1) (mm_sI (mm_sI M2 40 0 1) 38 2 0) zj_A := zf_I (by unfold zj_A; omega) _ _
  have f04 := zf_tr f03 f4
  have k4 := h.keep f04
  have hP4 := hP.keep f04
  have hH4 : zo_H (mm_sI (mm_sI M2 40 0 1) 38 2 0) 45 P := hH.keep (fun a q1 q2 k => zf_i f04 (by unfold zj_A; omega) k)
  have fp0 : ff_P_firstPoint 45 0 (mm_sI (mm_sI M2 40 0 1) 38 2 0) = some (nI (zp_fp P 0)) := zr_firstPoint (b := 0) hP4 hH4 hV hV.1
  rw [zp_I (zj_e38 k3), Option.bind_some, fp0, Option.bind_some, zp_I (zj_e38 k4), Option.bind_some]
  have k5 : zk_N (mm_sI (mm_sI (mm_sI M2 40 0 1) 38 2 0) 38 3 (nI (zp_fp P 0))) := k4.keep (zf_I (A := zj_A) (by unfold zj_A; omega) _ _)
  rw [zp_I (zj_e38 k5), Option.bind_some]
  have k6 : zk_N (mm_sI (mm_sI (mm_sI (mm_sI M2 40 0 1) 38 2 0) 38 3 (nI (zp_fp P 0))) 38 4 0) := k5.keep (zf_I (A := zj_A) (by unfold zj_A; omega) _ _)
  rw [zp_I (zj_e38 k6), Option.bind_some]
  have k7 : zk_N (mm_sI (mm_sI (mm_sI (mm_sI (mm_sI M2 40 0 1) 38 2 0) 38 3 (nI (zp_fp P 0))) 38 4 0) 38 5 (-1)) := k6.keep (zf_I (A := zj_A) (by unfold zj_A; omega) _ _)
  rw [zp_Z0 (zj_e38 k7), Option.bind_some]
  refine ⟨_, rfl, zf_tr f04 (zf_tr (zf_I (by unfold zj_A; omega) _ _) (zf_tr (zf_I (by unfold zj_A; omega) _ _) (zf_tr (zf_I (by unfold zj_A; omega) _ _) (zf_I (by unfold zj_A; omega) _ _)))), ?_, ?_⟩
  · refine ⟨fun v hv => ?_, fun b hb => ?_, fun v hv => ?_, ?_, ?_, ?_⟩
    · rw [zm_II, if_neg (by omega), zm_II, if_neg (by omega), zm_II, if_neg (by omega), zm_II, if_neg (by omega), zm_II, if_neg (by omega), zm_II, if_neg (by omega), zf_i f2 (by omega), r1 v, if_pos hv]
      exact nI_0.symm
    · rw [zm_II, if_neg (by omega), zm_II, if_neg (by omega), zm_II, if_neg (by omega), zm_II, if_neg (by omega), zm_II, if_neg (by omega), zm_II]
      show _ = nI (if b = 0 then 1 else 0)
      by_cases c : b = 0
      · rw [if_pos ⟨rfl, c⟩, if_pos c]
        exact (show (1 : Int32) = nI 1 from rfl)
      · rw [if_neg (fun z => c z.2), if_neg c, r2 b, if_pos hb]
        exact nI_0.symm
    · rw [zm_II, if_neg (by omega), zm_II, if_neg (by omega), zm_II, if_neg (by omega), zm_II, if_neg (by omega), zm_II, if_pos ⟨rfl, rfl⟩]
      exact b_0 v
    · rw [zm_II, if_neg (by omega), zm_II, if_neg (by omega), zm_II, if_neg (by omega), zm_II, if_pos ⟨rfl, rfl⟩]
      rfl
    · rw [zm_II, if_neg (by omega), zm_II, if_pos ⟨rfl, rfl⟩]
      rfl
    · rw [zm_II, if_pos ⟨rfl, rfl⟩]
      rfl
  · rw [zm_II, if_neg (by omega), zm_II, if_neg (by omega), zm_II, if_pos ⟨rfl, rfl⟩]
end ZRV
