/-! ===== the reference: the distance to a block ===== -/
theorem zu_new {M0 N1 N' : mm_T} {A : Nat → Prop} {k u c : Nat} (h : zf_X M0 N1 A k u) (g : zf_F N1 N' (fun x => x = c)) (hc : mm_n M0 < c) : zf_X M0 N' A k u := by
  obtain ⟨a1, a2, a3, a4, a5, a6⟩ := h
  exact ⟨by rw [g.1]; exact a1, by rw [g.1]; exact a2, by rw [g.2.1]; exact a3, by rw [g.2.2.1]; exact a4, fun a ha => ⟨by rw [g.2.2.2.1]; exact (a5 a ha).1, fun j => (zf_R g a j).trans ((a5 a ha).2 j)⟩, fun a ha hA j => ⟨(zf_i g (by omega) j).trans (a6 a ha hA j).1, (zf_j g (by omega) j).trans (a6 a ha hA j).2⟩⟩
section ZTD
variable {M : mm_T} {o : Nat} {P : zp_T}
theorem zt_distanceTo (h : zt_S M o P) (hB : mm_n M + 20 < st_B) (a : Int32) : zt_O (ff_M_distanceTo 52 a M) M (zv_distanceTo P a) := by
  have hV := h.2.2.2.2
  have hnb := hV.2.1
  unfold ff_M_distanceTo zv_distanceTo
  rw [zq_gd (zt_e52 h)]
  refine zt_opB h (fun c h1 => ?_)
  obtain ⟨hb, ea⟩ := zi_An c
  generalize zi_n a = b at hb ea
  subst ea
  have hB' : mm_n (mm_sI M 52 4 0) + 20 < st_B := hB
  suffices goal : zh_H (bd_2 (na_K 22 (mm_sI M 52 4 0) (12 : Int32)) fun x2 M2 => (aw_Z M2 x2 (0 : Int32) (1 : Int32)).bind fun M3 => lf_M_distanceTo_21 52 (nI b) fu_L x2 (0 : Int32) M3) (fun y => ∃ N, y = (if zp_nr P 11 b = true then nI (zp_dist P b) else -1, N) ∧ zf_X (mm_sI M 52 4 0) N zt_A 20 240) by
    obtain ⟨y, e, N, rfl, f⟩ := goal
    rw [e]
    exact zt_ret f
  generalize mm_sI M 52 4 0 = M0 at h1 hB' ⊢
  have n62 := zt_n62 h1.1
  refine zh_at2 (show na_K 22 M0 (12 : Int32) = _ from zu_na (n := 12) (by omega) (by omega)) ?_
  have k1 : mm_k (mm_al M0 (22, 12) 12) (mm_n M0 + 1) = (22, 12) := zu_alk _ _ _
  have w1 : aw_Z (mm_al M0 (22, 12) 12) (mm_n M0 + 1) 0 1 = some (mm_sI (mm_al M0 (22, 12) 12) (mm_n M0 + 1) 0 1) := zw_Z (j := 0) k1 (by omega) (by omega) true
  rw [w1, Option.bind_some]
  have fa : zf_X M0 (mm_al M0 (22, 12) 12) zt_A 1 12 := zu_al _ _ _ _
  have fs : zf_F (mm_al M0 (22, 12) 12) (mm_sI (mm_al M0 (22, 12) 12) (mm_n M0 + 1) 0 1) (fun x => x = mm_n M0 + 1) := zf_I (A := fun x => x = mm_n M0 + 1) rfl _ _
  refine zh_up (F := fun fu i (s : Nat × mm_T) => lf_M_distanceTo_21 52 (nI b) fu s.1 i s.2) 12 (fun i s => 62 < s.1 ∧ mm_k s.2 s.1 = (22, 12) ∧ zt_rw s.2 s.1 (fun y => zp_nr P i y = true) ∧ zf_X M0 s.2 zt_A (1 + i) (12 * (1 + i)) ∧ ∀ e, e < i → zp_nr P e b = false) ?_ ?_ fu_L 0 (mm_n M0 + 1, mm_sI (mm_al M0 (22, 12) 12) (mm_n M0 + 1) 0 1) (Nat.zero_le _) (by rw [zs_fuel]; omega) ⟨by show 62 < mm_n M0 + 1; omega, by rw [zf_k fs]; exact k1, ?_, zu_new fa fs (by omega), fun e he => absurd he (Nat.not_lt_zero _)⟩
  · intro fu i s hi ⟨g1, g2, g3, g4, g5⟩ k
    obtain ⟨cc, N⟩ := s
    simp only at g1 g2 g3 g4
    have hS : zt_S N o P := h1.keepX g4
    have e0 : ar_Z N cc (nI b) = some (zb_B (zp_b (zp_nr P i b = true))) := by rw [za_Z g2 (show b < 12 by omega) (by omega), zt_rw_b g3 (show b < 12 by omega)]
    show zh_H (lb_M_distanceTo_21 52 (nI b) (lf_M_distanceTo_21 52 (nI b) fu) cc (nI i) N) _
    unfold lb_M_distanceTo_21
    rw [if_neg (show ¬ (12 : Int32) ≤ nI i from nI_ge (b := 12) hi (by omega)), e0, Option.bind_some]
    by_cases q : zp_nr P i b = true
    · rw [zp_b_iff.mpr q, if_neg (by decide)]
      refine zh_some ⟨N, ?_, zu_wk g4 (by omega) (by omega) (fun a h => h)⟩
      have e11 : zp_nr P 11 b = true := by
        have := zp_nr_le q (11 - i)
        rw [show i + (11 - i) = 11 by omega] at this
        exact this
      have ed : zp_dist P b = i := fa_first_eq (p := fun n => zp_nr P n b) hi q g5
      rw [if_pos e11, ed]
    · rw [zp_bF q, if_pos (by decide)]
      have hn : mm_n N ≤ mm_n M0 + (1 + i) := g4.2.1
      refine zh_at2 (show na_K 22 N (12 : Int32) = _ from zu_na (n := 12) (by omega) (by omega)) ?_
      have cle := (zu_in g2 (by decide)).2
      have n62N := zt_n62 hS.1
      have fb : zf_X N (mm_al N (22, 12) 12) zt_A 1 12 := zu_al _ _ _ _
      have hS1 : zt_S (mm_al N (22, 12) 12) o P := hS.keepX fb
      simp only [Option.bind_some, nI_1]
      refine zt_dstep (n := i) hS1 g1 (show 62 < mm_n N + 1 by omega) (by omega) ((zu_k fb cle).trans g2) (zu_alk _ _ _) (fun y hy => by
        rw [zu_i fb cle (by unfold zt_A; omega)]
        exact g3 y hy) (fun y hy => Or.inl ⟨zu_alI _ _ _ _, fun z => z⟩) (fun N' fN' wN' => ?_)
      refine k (mm_n N + 1, N') ⟨by show 62 < mm_n N + 1; omega, by rw [zf_k fN']; exact zu_alk _ _ _, wN', ?_, fun e he => ?_⟩
      · have := zu_tr g4 fb
        have h0 : mm_n M0 ≤ mm_n N := g4.1
        exact zu_wk (zu_new this fN' (by omega)) (by omega) (by omega) (fun a h => h)
      · rcases Nat.lt_or_ge e i with z | z
        · exact g5 e z
        · rw [show e = i by omega]; simpa using q
  · intro fu s ⟨g1, g2, g3, g4, g5⟩
    obtain ⟨cc, N⟩ := s
    simp only at g1 g2 g3 g4
    show zh_H (lb_M_distanceTo_21 52 (nI b) (lf_M_distanceTo_21 52 (nI b) fu) cc (nI 12) N) _
    unfold lb_M_distanceTo_21
    rw [if_pos (show (12 : Int32) ≤ nI 12 from nI_le (a := 12) (Nat.le_refl _) (by omega))]
    refine zh_some ⟨N, ?_, zu_wk g4 (by omega) (by omega) (fun a h => h)⟩
    rw [if_neg (by rw [g5 11 (by omega)]; decide)]
  · intro y hy
    show (mm_I (mm_sI (mm_al M0 (22, 12) 12) (mm_n M0 + 1) 0 1) (mm_n M0 + 1) y = 0 ∧ _) ∨ (mm_I (mm_sI (mm_al M0 (22, 12) 12) (mm_n M0 + 1) 0 1) (mm_n M0 + 1) y = 1 ∧ _)
    rw [zm_II]
    have e0 : zp_nr P 0 y = true ↔ y = 0 := by
      show decide (y = 0) = true ↔ _
      simp
    by_cases z : y = 0
    · rw [if_pos ⟨rfl, z⟩]
      exact Or.inr ⟨rfl, e0.mpr z⟩
    · rw [if_neg (fun w => z w.2), zu_alI]
      exact Or.inl ⟨rfl, fun w => z (e0.mp w)⟩
end ZTD
