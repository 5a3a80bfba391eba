/-! ===== the class's machine: the loop of a run ===== -/
section ZRW
variable {M : mm_T} {P : zp_T}
theorem zj_runC (h : zk_N M) (hP : zo_P M 45) (hH : zo_H M 45 P) (hV : zp_V P) {n : Nat} (hn : n ≤ 1000) : ∃ M', ff_N_run 38 45 (nI n) M = some M' ∧ zf_F M M' zj_A ∧ zj_H M' (zj_run P n) ∧ mm_I M' 38 4 = nI (zj_n P n) := by
  obtain ⟨M1, e1, f1, s1, n1⟩ := zj_start h hP hH hV
  suffices goal : zh_H (ff_N_run 38 45 (nI n) M) (fun M' => zf_F M M' zj_A ∧ zj_H M' (zj_run P n) ∧ mm_I M' 38 4 = nI (zj_n P n)) from goal
  unfold ff_N_run
  rw [zq_gd (zj_e38 h), e1, Option.bind_some]
  refine zh_up (F := fun fu i N => lf_N_run_7 38 45 (nI n) fu i N) n (fun i N => zf_F M N zj_A ∧ zj_H N (zj_run P i) ∧ mm_I N 38 4 = nI (zj_n P i)) ?_ ?_ fu_L 0 M1 (Nat.zero_le _) (by rw [zs_fuel]; omega) ⟨f1, s1, n1.trans nI_0.symm⟩
  · intro fu i N hi ⟨g1, g2, g3⟩ k
    have k1 := h.keep g1
    show zh_H (lb_N_run_7 38 45 (nI n) (lf_N_run_7 38 45 (nI n) fu) (nI i) N) _
    unfold lb_N_run_7
    rw [if_neg (nI_ge hi (by omega)), zg_I (zj_e38 k1), Option.bind_some, g2.2.2.2.2.2]
    cases eo : zj_o (zj_run P i) with
    | true =>
      rw [if_neg (by decide)]
      obtain ⟨r1, r2⟩ := zj_stay eo (n - i)
      rw [show i + (n - i) = n by omega] at r1 r2
      exact zh_some ⟨g1, by rw [r1]; exact g2, by rw [r2]; exact g3⟩
    | false =>
      rw [if_pos (by decide)]
      obtain ⟨N2, e2, f2, h2, n2⟩ := zj_stepC k1 g2 (hP.keep g1) (hH.keep (fun a q1 q2 k => zf_i g1 (by unfold zj_A; omega) k)) hV (zj_ok_run hV i)
      rw [e2, Option.bind_some, Option.bind_some, nI_1]
      have r1 : zj_run P (i + 1) = zj_step P (zj_run P i) := by
        show (if zj_o (zj_run P i) = true then zj_run P i else zj_step P (zj_run P i)) = _
        rw [if_neg (by rw [eo]; decide)]
      have r2 : zj_n P (i + 1) = zj_n P i + 1 := by
        show (if zj_o (zj_run P i) = true then zj_n P i else zj_n P i + 1) = _
        rw [if_neg (by rw [eo]; decide)]
      exact k N2 ⟨zf_tr g1 f2, by rw [r1]; exact h2, by rw [n2, g3, nI_1, r2]⟩
  · intro fu N g
    show zh_H (lb_N_run_7 38 45 (nI n) (lf_N_run_7 38 45 (nI n) fu) (nI n) N) _
    unfold lb_N_run_7
    rw [if_pos (nI_le (Nat.le_refl _) (by omega))]
    exact zh_some g
end ZRW
