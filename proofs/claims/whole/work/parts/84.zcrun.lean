/-! ===== the class: Constants, the rounds ===== -/
theorem zn_ext {P : zp_T} {F G : Nat → Nat → Int32} {p v : Nat} (hV : zp_V P) (hp : zp_pt P p) (hv : v < 8) (h : ∀ w, w < 8 → F p w = G p w) : zc_out P F p v = zc_out P G p v ∧ (p < zp_ni P → zc_res P F p = zc_res P G p) := by
  have hr : p < zp_ni P → zc_res P F p = zc_res P G p := by
    intro hi
    have hq := hV.2.2.2.2.2.2.2 p hi
    unfold zc_res
    by_cases c : zp_k P p = 0
    · rw [if_pos c, if_pos c]
    · rw [if_neg c, if_neg c, h (zp_l P p) (hq.2.2.2.1 c), h (zp_r P p) hq.2.2.2.2.2]
  refine ⟨?_, hr⟩
  unfold zc_out
  by_cases c : zp_df P p = some v
  · have hi : p < zp_ni P := by
      rcases hp with q | q
      · exact q
      · unfold zp_df at c; rw [if_neg (by omega)] at c; cases c
    rw [if_pos c, if_pos c, hr hi]
  · rw [if_neg c, if_neg c, h v hv]
theorem zn_flow {M N : mm_T} {P : zp_T} (hC : zk_C M) (hP : zo_P M 45) (hH : zo_H M 45 P) (hV : zp_V P) (hI : zn_Inv M P N) {p : Nat} (hp : zp_OP P p) : ∃ (c : Bool) (N' : mm_T), ff_C_flow 35 45 (nI p) N = some (zb_B c, N') ∧ zn_Inv M P N' ∧ (c = true → zn_mu N' < zn_mu N) ∧ (c = false → (∀ k, mm_I N' 36 k = mm_I N 36 k) ∧ (∀ j, j ≠ p → mm_I N' 37 j = mm_I N 37 j) ∧ zn_St P p N') := by
  have hp52 := zp_pt_lt hV hp.1
  have hni := hV.2.2.1
  have hnc := zp_nc_le hV hp.1
  have keep : ∀ {N}, zf_F M N (fun x => x = 36 ∨ x = 37) → zk_C N ∧ zo_P N 45 ∧ zo_H N 45 P := fun {N} h => ⟨hC.keep h, hP.keep h, hH.keep (fun a q1 q2 k => zf_i h (by omega) k)⟩
  have outW : ∀ v, v < 8 → zc_W (zc_out P (zn_F N) p v) := by
    intro v hv
    unfold zc_out
    split
    · rename_i c
      have hi : p < zp_ni P := by
        rcases hp.1 with q | q
        · exact q
        · unfold zp_df at c; rw [if_neg (by omega)] at c; cases c
      exact zc_res_W hV hi (hI.2.1 p hp52)
    · exact hI.2.1 p hp52 v hv
  have outG : ∀ G, zc_pre P G → ∀ q, zp_sc P p q → ∀ v, v < 8 → zc_ge (zc_out P (zn_F N) p v) (G q v) := fun G hG q hs v hv => zc_ge_tr (zc_out_m hV hp.1 hv (fun w hw => hI.2.2.1 G hG p hp w hw)) (hG.2 p q hp hs v hv)
  -- what holds while the meets are made
  let J : Nat → Nat → Int32 × mm_T → Prop := fun i v s => ∃ c : Bool, s.1 = zb_B c ∧ zn_Inv M P s.2 ∧ (∀ j, j ≠ p → mm_I s.2 37 j = mm_I N 37 j) ∧ (zp_df P p ≠ none → mm_I s.2 37 p = zc_res P (zn_F N) p) ∧ (∀ w, w < 8 → zn_F s.2 p w = zn_F N p w) ∧ zn_mu s.2 ≤ zn_mu N ∧ (c = true → zn_mu s.2 < zn_mu N) ∧ (c = false → ∀ k, mm_I s.2 36 k = mm_I N 36 k) ∧ (∀ j, j < i → ∀ w, w < 8 → zc_ge (zc_out P (zn_F N) p w) (zn_F s.2 (zp_nx P p j) w)) ∧ (∀ w, w < v → w < 8 → zc_ge (zc_out P (zn_F N) p w) (zn_F s.2 (zp_nx P p i) w))
  have run : ∀ N1, J 0 0 (0, N1) → zh_H (lf_C_flow_35 35 45 (nI p) (zo_N (zp_df P p)) fu_L 0 0 N1) (fun y => ∃ (c : Bool) (N' : mm_T), y = (zb_B c, N') ∧ zn_Inv M P N' ∧ (c = true → zn_mu N' < zn_mu N) ∧ (c = false → (∀ k, mm_I N' 36 k = mm_I N 36 k) ∧ (∀ j, j ≠ p → mm_I N' 37 j = mm_I N 37 j) ∧ zn_St P p N')) := by
    intro N1 hJ
    refine zh_up (F := fun fu i (s : Int32 × mm_T) => lf_C_flow_35 35 45 (nI p) (zo_N (zp_df P p)) fu s.1 i s.2) (zp_nc P p) (fun i s => J i 0 s) ?_ ?_ fu_L 0 (0, N1) (Nat.zero_le _) (by rw [zs_fuel]; omega) hJ
    · intro fu i s hi hs k
      obtain ⟨q4, N2⟩ := s
      obtain ⟨hC2, hP2, hH2⟩ := keep hs.choose_spec.2.1.1
      have hsc : zp_sc P p (zp_nx P p i) := ⟨hp.1, i, hi, rfl⟩
      have hoq := zp_OP_sc hV hp hsc
      have hq := zp_pt_lt hV hoq.1
      show zh_H (lb_C_flow_35 35 45 (nI p) (zo_N (zp_df P p)) (lf_C_flow_35 35 45 (nI p) (zo_N (zp_df P p)) fu) q4 (nI i) N2) _
      unfold lb_C_flow_35
      rw [zr_nextCount hP2 hH2 hV hp.1, Option.bind_some, if_neg (nI_ge hi (by omega)), zr_nextPoint hP2 hH2 hV hp.1 hi, Option.bind_some]
      simp only [Option.bind_some, nI_1]
      refine zh_up (F := fun fu v (s : Int32 × mm_T) => lf_C_flow_57 _ 35 45 (nI p) (zo_N (zp_df P p)) (nI i) (nI (zp_nx P p i)) fu s.1 v s.2) 8 (fun v s => J i v s) ?_ ?_ fu_L 0 (q4, N2) (Nat.zero_le _) (by rw [zs_fuel]; omega) hs
      · intro fu' v s hv hs k'
        obtain ⟨q4, N3⟩ := s
        obtain ⟨c, s1, s2, s3, s4, s5, s6, s7, s8, s9, s10⟩ := hs
        simp only at s1 s2 s3 s4 s5 s6 s7 s8 s9 s10
        obtain ⟨hC3, hP3, hH3⟩ := keep s2.1
        have e35 : (mm_k N3 35).1 = 1 := by rw [hC3.1]
        show zh_H (lb_C_flow_57 _ 35 45 (nI p) (zo_N (zp_df P p)) (nI i) (nI (zp_nx P p i)) (lf_C_flow_57 _ 35 45 (nI p) (zo_N (zp_df P p)) (nI i) (nI (zp_nx P p i)) fu') q4 (nI v) N3) _
        unfold lb_C_flow_57
        rw [if_neg (show ¬ (8 : Int32) ≤ nI v from nI_ge (b := 8) hv (by omega))]
        simp only [zq_jp]
        have fin : zh_H (bd_2 (ff_C_meet 35 (nI (zp_nx P p i)) (nI v) (zc_out P (zn_F N) p v) N3) fun x5 M2 => if x5 = 0 then ((some (nI v + (1 : Int32))).bind fun x7 => lf_C_flow_57 (fun x11 M3 => lf_C_flow_35 35 45 (nI p) (zo_N (zp_df P p)) fu x11 (nI (i + 1)) M3) 35 45 (nI p) (zo_N (zp_df P p)) (nI i) (nI (zp_nx P p i)) fu' q4 x7 M2) else ((some (nI v + (1 : Int32))).bind fun x7 => lf_C_flow_57 (fun x11 M3 => lf_C_flow_35 35 45 (nI p) (zo_N (zp_df P p)) fu x11 (nI (i + 1)) M3) 35 45 (nI p) (zo_N (zp_df P p)) (nI i) (nI (zp_nx P p i)) fu' 1 x7 M2)) (fun y => ∃ (c : Bool) (N' : mm_T), y = (zb_B c, N') ∧ zn_Inv M P N' ∧ (c = true → zn_mu N' < zn_mu N) ∧ (c = false → (∀ k, mm_I N' 36 k = mm_I N 36 k) ∧ (∀ j, j ≠ p → mm_I N' 37 j = mm_I N 37 j) ∧ zn_St P p N')) := by
          obtain ⟨b, eb, hb⟩ := zn_meet hC3 hq hv (zc_out P (zn_F N) p v)
          refine zh_at2 eb ?_
          have mu := zn_Mmu (N := N3) (x := zc_out P (zn_F N) p v) hq hv
          have a2 : zn_Inv M P (zn_M (zp_nx P p i) v (zc_out P (zn_F N) p v) N3) := zn_InvM hV s2 hoq hv (outW v hv) (fun G hG => outG G hG _ hsc v hv)
          have a37 : ∀ j, mm_I (zn_M (zp_nx P p i) v (zc_out P (zn_F N) p v) N3) 37 j = mm_I N3 37 j := fun j => by unfold zn_M; rw [zm_II, if_neg (by omega)]
          have arow : ∀ w, w < 8 → zn_F (zn_M (zp_nx P p i) v (zc_out P (zn_F N) p v) N3) p w = zn_F N p w := by
            intro w hw
            rw [zn_MF _ _ _ _ hv hw]
            by_cases e : p = zp_nx P p i ∧ w = v
            · have h40 : ¬ p < 40 := by
                intro c
                have := e.1
                unfold zp_nx at this
                rw [if_pos c] at this
                split at this <;> omega
              have hno : zp_df P p = none := by unfold zp_df; rw [if_neg (fun q => h40 q.1)]
              rw [if_pos e, ← e.1, s5 v hv, e.2]
              unfold zc_out
              rw [if_neg (by rw [hno]; simp)]
              unfold zc_meet
              split
              · rfl
              · rw [if_pos rfl]
            · rw [if_neg e]; exact s5 w hw
          have adown : ∀ q w, w < 8 → zc_ge (zn_F N3 q w) (zn_F (zn_M (zp_nx P p i) v (zc_out P (zn_F N) p v) N3) q w) := by
            intro q w hw
            rw [zn_MF _ _ _ _ hv hw]
            split
            · rename_i e
              rw [e.1, e.2]
              exact zc_meet_l _ _
            · exact zc_ge_rfl _
          have a9 : ∀ j, j < i → ∀ w, w < 8 → zc_ge (zc_out P (zn_F N) p w) (zn_F (zn_M (zp_nx P p i) v (zc_out P (zn_F N) p v) N3) (zp_nx P p j) w) := fun j hj w hw => zc_ge_tr (s9 j hj w hw) (adown _ w hw)
          have a10 : ∀ w, w < v + 1 → w < 8 → zc_ge (zc_out P (zn_F N) p w) (zn_F (zn_M (zp_nx P p i) v (zc_out P (zn_F N) p v) N3) (zp_nx P p i) w) := by
            intro w hw hw8
            rcases Nat.lt_or_ge w v with c2 | c2
            · exact zc_ge_tr (s10 w c2 hw8) (adown _ w hw8)
            · rw [show w = v by omega, zn_MF _ _ _ _ hv hv, if_pos ⟨rfl, rfl⟩]
              exact zc_meet_r _ _
          have b37 : ∀ j, j ≠ p → mm_I (zn_M (zp_nx P p i) v (zc_out P (zn_F N) p v) N3) 37 j = mm_I N 37 j := fun j hj => (a37 j).trans (s3 j hj)
          have c37 : zp_df P p ≠ none → mm_I (zn_M (zp_nx P p i) v (zc_out P (zn_F N) p v) N3) 37 p = zc_res P (zn_F N) p := fun h => (a37 p).trans (s4 h)
          cases b with
          | true =>
            rw [if_neg (by decide), Option.bind_some, nI_1]
            have hlt := mu.2 (fun h => by have := hb.mpr h; cases this)
            exact k' (1, zn_M (zp_nx P p i) v (zc_out P (zn_F N) p v) N3) ⟨true, rfl, a2, b37, c37, arow, Nat.le_trans mu.1 s6, fun _ => Nat.lt_of_lt_of_le hlt s6, (by intro h; cases h), a9, a10⟩
          | false =>
            rw [if_pos (by decide), Option.bind_some, nI_1]
            refine k' (q4, zn_M (zp_nx P p i) v (zc_out P (zn_F N) p v) N3) ⟨c, s1, a2, b37, c37, arow, Nat.le_trans mu.1 s6, fun h => Nat.lt_of_le_of_lt mu.1 (s7 h), fun h k => ?_, a9, a10⟩
            show mm_I (zn_M (zp_nx P p i) v (zc_out P (zn_F N) p v) N3) 36 k = mm_I N 36 k
            unfold zn_M
            rw [hb.mp rfl, zm_II]
            split
            · rename_i e
              rw [e.2]
              exact s8 h _
            · exact s8 h k
        by_cases cv : zp_df P p = some v
        · have hi2 : p < 40 := by
            unfold zp_df at cv
            split at cv
            · rename_i q; exact q.1
            · cases cv
          rw [if_pos (show nI v = zo_N (zp_df P p) by rw [cv]; rfl), zg_R e35, Option.bind_some, hC3.2.1.2, zd_at hC3.2.2.2 hi2 (by omega), Option.bind_some]
          rw [s4 (by rw [cv]; simp), show zc_res P (zn_F N) p = zc_out P (zn_F N) p v by unfold zc_out; rw [if_pos cv]]
          exact fin
        · have hne : ¬ nI v = zo_N (zp_df P p) := by
            intro h
            cases e : zp_df P p with
            | none => rw [e] at h; exact zi_n1 (by omega) h
            | some t =>
              have := zp_df_lt hV hp.1 e
              rw [e] at h
              exact cv (by rw [e, (nI_eq (by omega) (by omega)).mp h])
          rw [if_neg hne, zn_state hC3 hp52 hv, Option.bind_some]
          rw [s5 v hv, show zn_F N p v = zc_out P (zn_F N) p v by unfold zc_out; rw [if_neg cv]]
          exact fin
      · intro fu' s hs
        obtain ⟨q4, N3⟩ := s
        obtain ⟨c, s1, s2, s3, s4, s5, s6, s7, s8, s9, s10⟩ := hs
        show zh_H (lb_C_flow_57 _ 35 45 (nI p) (zo_N (zp_df P p)) (nI i) (nI (zp_nx P p i)) (lf_C_flow_57 _ 35 45 (nI p) (zo_N (zp_df P p)) (nI i) (nI (zp_nx P p i)) fu') q4 (nI 8) N3) _
        unfold lb_C_flow_57
        rw [if_pos (show (8 : Int32) ≤ nI 8 from nI_le (a := 8) (Nat.le_refl _) (by omega))]
        refine k (q4, N3) ⟨c, s1, s2, s3, s4, s5, s6, s7, s8, fun j hj w hw => ?_, fun w hw => absurd hw (Nat.not_lt_zero _)⟩
        rcases Nat.lt_or_ge j i with c2 | c2
        · exact s9 j c2 w hw
        · rw [show j = i by omega]; exact s10 w hw hw
    · intro fu s hs
      obtain ⟨q4, N2⟩ := s
      obtain ⟨c, s1, s2, s3, s4, s5, s6, s7, s8, s9, s10⟩ := hs
      simp only at s1 s2 s3 s4 s5 s6 s7 s8 s9 s10
      obtain ⟨hC2, hP2, hH2⟩ := keep s2.1
      show zh_H (lb_C_flow_35 35 45 (nI p) (zo_N (zp_df P p)) (lf_C_flow_35 35 45 (nI p) (zo_N (zp_df P p)) fu) q4 (nI (zp_nc P p)) N2) _
      unfold lb_C_flow_35
      rw [zr_nextCount hP2 hH2 hV hp.1, Option.bind_some, if_pos (nI_le (Nat.le_refl _) (by omega)), s1, zb_Zok, Option.bind_some]
      refine zh_some ⟨c, N2, rfl, s2, s7, fun hc => ⟨s8 hc, s3, fun _ => ⟨fun k hk v hv => ?_, fun hd => ?_⟩⟩⟩
      · rw [(zn_ext hV hp.1 hv s5).1]
        exact s9 k hk v hv
      · have hi : p < zp_ni P := by
          rcases hp.1 with q | q
          · exact q
          · exact absurd (show zp_df P p = none by unfold zp_df; rw [if_neg (by omega)]) hd
        rw [(zn_ext hV hp.1 (v := 0) (by omega) s5).2 hi]
        exact s4 hd
  suffices goal : zh_H (ff_C_flow 35 45 (nI p) N) (fun y => ∃ (c : Bool) (N' : mm_T), y = (zb_B c, N') ∧ zn_Inv M P N' ∧ (c = true → zn_mu N' < zn_mu N) ∧ (c = false → (∀ k, mm_I N' 36 k = mm_I N 36 k) ∧ (∀ j, j ≠ p → mm_I N' 37 j = mm_I N 37 j) ∧ zn_St P p N')) by
    obtain ⟨y, e, c, N', rfl, h⟩ := goal
    exact ⟨c, N', e, h⟩
  obtain ⟨hC1, hP1, hH1⟩ := keep hI.1
  have e35 : (mm_k N 35).1 = 1 := by rw [hC1.1]
  unfold ff_C_flow
  rw [zq_gd e35, zr_definedAt hP1 hH1 hV hp.1, Option.bind_some, zq_jp]
  cases e : zp_df P p with
  | none =>
    rw [if_pos zo_none]
    rw [e] at run
    exact run N ⟨false, rfl, hI, fun _ _ => rfl, fun h => absurd e h, fun _ _ => rfl, Nat.le_refl _, (by intro h; cases h), fun _ _ => rfl, fun j hj => absurd hj (Nat.not_lt_zero _), fun w hw => absurd hw (Nat.not_lt_zero _)⟩
  | some t =>
    have ht := zp_df_lt hV hp.1 e
    have hd : p < 40 ∧ zp_k P p ≠ 3 := by
      unfold zp_df at e
      split at e
      · rename_i q; exact q
      · cases e
    have hi : p < zp_ni P := by rcases hp.1 with q | q <;> omega
    rw [zo_some, if_neg (zi_n1 (by omega)), zg_R e35, Option.bind_some, hC1.2.1.2, zr_word hP1 hH1 hV hi, Option.bind_some, zn_result hC1 hV hi hd.2 (hI.2.1 p hp52), Option.bind_some, zd_put hC1.2.2.2 hd.1 (by omega), Option.bind_some]
    have r := run (mm_sI N 37 p (zc_res P (zn_F N) p))
    rw [e] at r
    have f36 : ∀ k, mm_I (mm_sI N 37 p (zc_res P (zn_F N) p)) 36 k = mm_I N 36 k := fun k => by rw [zm_II, if_neg (by omega)]
    have fF : ∀ q w, zn_F (mm_sI N 37 p (zc_res P (zn_F N) p)) q w = zn_F N q w := fun q w => f36 _
    refine r ⟨false, rfl, ⟨zf_tr hI.1 (zf_I (A := fun x => x = 36 ∨ x = 37) (Or.inr rfl) _ _), fun q hq v hv => by rw [fF]; exact hI.2.1 q hq v hv, fun G hG q hq v hv => by rw [fF]; exact hI.2.2.1 G hG q hq v hv, fun q hq hn v hv => by rw [fF]; exact hI.2.2.2.1 q hq hn v hv, fun v hv => by rw [fF]; exact hI.2.2.2.2.1 v hv, fun j hj hn => ?_⟩, fun j hj => ?_, fun _ => ?_, fun w _ => fF p w, ?_, (by intro h; cases h), fun _ k => f36 k, fun j hj => absurd hj (Nat.not_lt_zero _), fun w hw => absurd hw (Nat.not_lt_zero _)⟩
    · rw [zm_II, if_neg (fun q => hn (by rw [q.2]; exact ⟨hi, hp, by rw [e]; simp⟩))]
      exact hI.2.2.2.2.2 j hj hn
    · show mm_I (mm_sI N 37 p _) 37 j = _
      rw [zm_II, if_neg (fun q => hj q.2)]
    · show mm_I (mm_sI N 37 p _) 37 p = _
      rw [zm_II, if_pos ⟨rfl, rfl⟩]
    · show zn_mu (mm_sI N 37 p _) ≤ zn_mu N
      unfold zn_mu
      simp only [f36]
      exact Nat.le_refl _
theorem zn_top {M N : mm_T} {P : zp_T} (hV : zp_V P) (hI : zn_Inv M P N) (hS : ∀ p, p < 52 → zn_St P p N) : zd_C N P := by
  have hni := hV.2.2.1
  refine ⟨⟨⟨hI.2.2.2.2.1, fun p q hp hs v hv => ?_⟩, hI.2.2.1, hI.2.2.2.1, hI.2.1⟩, fun i hi => ⟨fun h1 h2 h3 => (hS i (by omega) h2).2 h3, hI.2.2.2.2.2 i hi⟩⟩
  obtain ⟨h1, k, hk, rfl⟩ := hs
  exact (hS p (zp_pt_lt hV h1) hp).1 k hk v hv
theorem zn_analyse {M : mm_T} {P : zp_T} (hC : zk_C M) (hG : zk_G M) (hP : zo_P M 45) (hH : zo_H M 45 P) (hV : zp_V P) (hg : zd_G M P) : ∃ M', ff_C_analyse 35 45 18 M = some M' ∧ zf_F M M' zn_A ∧ zd_C M' P ∧ mm_I M' 35 0 = 1 := by
  have hnb := hV.2.1
  have hni := hV.2.2.1
  have e35 : (mm_k M 35).1 = 1 := by rw [hC.1]
  unfold ff_C_analyse
  rw [zq_gd e35, zg_R e35, Option.bind_some, hC.2.1.1]
  obtain ⟨M1, e1, f1, -, r1⟩ := zf_fillI hC.2.2.1 (by omega) (-2)
  rw [e1, Option.bind_some]
  have hC1 := hC.keep f1
  rw [zg_R (by rw [hC1.1]), Option.bind_some, hC1.2.1.2]
  obtain ⟨M2, e2, f2, -, r2⟩ := zf_fillI hC1.2.2.2 (by omega) (-2)
  rw [e2, Option.bind_some]
  have f12 : zf_F M M2 (fun x => x = 36 ∨ x = 37) := zf_tr (zf_mono f1 (fun a h => Or.inl h)) (zf_mono f2 (fun a h => Or.inr h))
  have keep : ∀ {N}, zf_F M N (fun x => x = 36 ∨ x = 37) → zk_C N ∧ zk_G N ∧ zo_P N 45 ∧ zo_H N 45 P ∧ ∀ b, b < 32 → (bt (mm_I N 18 1) b = true ↔ zp_RB P b) := fun {N} h => ⟨hC.keep h, hG.keep h, hP.keep h, hH.keep (fun a q1 q2 k => zf_i h (by omega) k), fun b hb => by rw [zf_i h (by omega)]; exact hg.1.2 b hb⟩
  have hb0 : 0 < zp_nb P := hV.1
  have hfp := zp_pt_lt hV (zp_fp_pt hV hb0)
  have bpl : ∀ p, zp_pt P p → zp_bp P p < 12 := fun p hp => by have := zp_bp_lt hV hp; omega
  refine zh_up (F := fun fu i N => lf_C_analyse_20 _ 35 45 18 fu i N) (Q := fun M' => zf_F M M' zn_A ∧ zd_C M' P ∧ mm_I M' 35 0 = 1) 8 (fun i N => zf_F M N (fun x => x = 36 ∨ x = 37) ∧ (∀ j, j < 40 → mm_I N 37 j = -2) ∧ ∀ p, p < 52 → ∀ v, v < 8 → (p = zp_fp P 0 ∧ v < i → zn_F N p v = 0) ∧ (¬ (p = zp_fp P 0 ∧ v < i) → zn_F N p v = -2)) ?_ ?_ fu_L 0 M2 (Nat.zero_le _) (by rw [zs_fuel]; omega) ⟨f12, fun j hj => by rw [r2 j, if_pos hj], fun p hp v hv => ⟨fun h => absurd h.2 (Nat.not_lt_zero _), fun _ => by unfold zn_F; rw [zf_i f2 (by omega), r1 _, if_pos (by omega)]⟩⟩
  · intro fu i N hi ⟨h1, h2, h3⟩ k
    obtain ⟨hC', hG', hP', hH', hr'⟩ := keep h1
    show zh_H (lb_C_analyse_20 _ 35 45 18 (lf_C_analyse_20 _ 35 45 18 fu) (nI i) N) _
    unfold lb_C_analyse_20
    rw [if_neg (show ¬ (8 : Int32) ≤ nI i from nI_ge (b := 8) hi (by omega)), show (0 : Int32) = nI 0 from rfl, zr_firstPoint hP' hH' hV hb0, Option.bind_some]
    obtain ⟨c, ec, _⟩ := zn_meet hC' hfp hi (nI 0)
    refine zh_at2 ec ?_
    rw [Option.bind_some, nI_1]
    have hold := (h3 _ hfp i hi).2 (fun q => absurd q.2 (Nat.lt_irrefl _))
    refine k _ ⟨zf_tr h1 (zf_I (A := fun x => x = 36 ∨ x = 37) (Or.inl rfl) _ _), fun j hj => ?_, fun p hp v hv => ?_⟩
    · unfold zn_M
      rw [zm_II, if_neg (by omega)]
      exact h2 j hj
    · rw [zn_MF _ _ _ _ hi hv]
      by_cases c : p = zp_fp P 0 ∧ v = i
      · rw [if_pos c]
        refine ⟨fun _ => ?_, fun q => absurd ⟨c.1, by omega⟩ q⟩
        rw [hold]
        decide
      · rw [if_neg c]
        exact ⟨fun q => (h3 p hp v hv).1 ⟨q.1, by have := q.2; rcases Nat.lt_or_ge v i with a | a; exact a; exact absurd ⟨q.1, by omega⟩ c⟩, fun q => (h3 p hp v hv).2 (fun z => q ⟨z.1, by omega⟩)⟩
  · intro fu N ⟨h1, h2, h3⟩
    show zh_H (lb_C_analyse_20 _ 35 45 18 (lf_C_analyse_20 _ 35 45 18 fu) (nI 8) N) _
    unfold lb_C_analyse_20
    rw [if_pos (show (8 : Int32) ≤ nI 8 from nI_le (a := 8) (Nat.le_refl _) (by omega))]
    dsimp only
    have hI0 : zn_Inv M P N := by
      refine ⟨h1, fun p hp v hv => ?_, fun G hG p hp v hv => ?_, fun p hp hn v hv => ?_, fun v hv => ?_, fun i hi _ => h2 i hi⟩
      · by_cases c : p = zp_fp P 0 ∧ v < 8
        · rw [(h3 p hp v hv).1 c]; exact Or.inr (Or.inr ⟨0, by omega, rfl⟩)
        · rw [(h3 p hp v hv).2 c]; exact Or.inl rfl
      · have hp52 := zp_pt_lt hV hp.1
        by_cases c : p = zp_fp P 0 ∧ v < 8
        · rw [(h3 p hp52 v hv).1 c, c.1]; exact hG.1 v hv
        · rw [(h3 p hp52 v hv).2 c]; exact Or.inl rfl
      · exact (h3 p hp v hv).2 (fun q => hn (q.1 ▸ zp_OP_0 hV))
      · rw [(h3 _ hfp v hv).1 ⟨rfl, hv⟩]; exact zc_ge_rfl _
    refine zs_fix (Fin := fun r cont fu q i N => lf_C_analyse_65 cont 35 45 18 (nI r) fu q (nI i) N) (Fout := fun fu q r N => lf_C_analyse_49 (fun (M8 : mm_T) => (pf_Z M8 35 1 0 (1 : Int32)).bind fun M9 => some M9) 35 45 18 fu q (nI r) N) (k0 := fun (M8 : mm_T) => (pf_Z M8 35 1 0 (1 : Int32)).bind fun M9 => some M9) (Q := fun M' => zf_F M M' zn_A ∧ zd_C M' P ∧ mm_I M' 35 0 = 1) 52 832 (zn_Inv M P) (zn_St P) zn_mu (fun i N c N' => zn_Inv M P N' ∧ (c = true → zn_mu N' < zn_mu N) ∧ (c = false → (∀ k, mm_I N' 36 k = mm_I N 36 k) ∧ (∀ j, j ≠ i → mm_I N' 37 j = mm_I N 37 j) ∧ zn_St P i N')) ?_ ?_ ?_ ?_ ?_ (by rw [zs_fuel]; omega) (by omega) ?_ fu_L 0 _ hI0 ?_ (by rw [zs_fuel]; omega)
    · intro r cont fu q i N hi hI k
      obtain ⟨hC', hG', hP', hH', hr'⟩ := keep hI.1
      show zh_H (lb_C_analyse_65 cont 35 45 18 (nI r) (lf_C_analyse_65 cont 35 45 18 (nI r) fu) q (nI i) N) _
      unfold lb_C_analyse_65
      rw [if_neg (show ¬ (52 : Int32) ≤ nI i from nI_ge (b := 52) hi (by omega)), zr_hasPoint hP' hH' hV hi, Option.bind_some, zq_jp]
      have no : ¬ zp_OP P i → zh_H (lf_C_analyse_65 cont 35 45 18 (nI r) fu q (nI (i + 1)) N) (fun M' => zf_F M M' zn_A ∧ zd_C M' P ∧ mm_I M' 35 0 = 1) := fun hno => k false N ⟨hI, (by intro h; cases h), fun _ => ⟨fun _ => rfl, fun _ _ => rfl, fun h => absurd h hno⟩⟩
      cases e : zp_ptb P i with
      | false =>
        rw [if_pos zb_f]
        simp only [Option.bind_some, nI_1]
        refine no (fun h => ?_)
        rw [zp_ptb_iff.mpr h.1] at e
        cases e
      | true =>
        have hpt := zp_ptb_iff.mp e
        have hbl := bpl i hpt
        rw [if_neg (by decide), zr_blockAt hP' hH' hV hpt, Option.bind_some, zg_isReached hG' (show zp_bp P i < 32 by omega), Option.bind_some]
        cases e2 : bt (mm_I N 18 1) (zp_bp P i) with
        | false =>
          rw [if_pos zb_f]
          simp only [Option.bind_some, nI_1]
          refine no (fun h => ?_)
          rw [(hr' _ (by omega)).mpr h.2] at e2
          cases e2
        | true =>
          rw [if_neg (by decide)]
          obtain ⟨c, N', e3, a1, a2, a3⟩ := zn_flow hC hP hH hV hI ⟨hpt, (hr' _ (by omega)).mp e2⟩
          refine zh_at2 e3 ?_
          cases c with
          | true =>
            rw [if_neg (by decide)]
            simp only [Option.bind_some, nI_1]
            exact k true N' ⟨a1, a2, a3⟩
          | false =>
            rw [if_pos (by decide)]
            simp only [Option.bind_some, nI_1]
            exact k false N' ⟨a1, a2, a3⟩
    · intro r cont fu q N
      show lb_C_analyse_65 cont 35 45 18 (nI r) (lf_C_analyse_65 cont 35 45 18 (nI r) fu) q (nI 52) N = _
      unfold lb_C_analyse_65
      rw [if_pos (show (52 : Int32) ≤ nI 52 from nI_le (a := 52) (Nat.le_refl _) (by omega))]
    · intro i N c N' hi hI ⟨a1, a2, a3⟩
      refine ⟨a1, a2, fun hc => ?_⟩
      obtain ⟨b1, b2, b3⟩ := a3 hc
      have hF : zn_F N' = zn_F N := by funext p v; exact b1 _
      refine ⟨by unfold zn_mu; simp only [b1]; exact Nat.le_refl _, b3, fun j hj h => ?_⟩
      by_cases c2 : j = i
      · rw [c2]; exact b3
      · intro ho
        obtain ⟨s1, s2⟩ := h ho
        exact ⟨by rw [hF]; exact s1, fun hd => by rw [hF, b2 j c2]; exact s2 hd⟩
    · intro fu r N
      show lb_C_analyse_49 _ 35 45 18 _ 0 (nI r) N = _
      unfold lb_C_analyse_49
      rw [if_pos rfl]
    · intro fu r N hr
      show lb_C_analyse_49 _ 35 45 18 _ 1 (nI r) N = _
      unfold lb_C_analyse_49
      rw [if_neg (by decide), if_neg (show ¬ (100000 : Int32) ≤ nI r from nI_ge (b := 100000) hr (by omega))]
      simp only [Option.bind_some, nI_1]
      rfl
    · intro N hI hS
      obtain ⟨hC', hG', hP', hH', hr'⟩ := keep hI.1
      have e35 : (mm_k N 35).1 = 1 := by rw [hC'.1]
      rw [zp_Z1 e35, Option.bind_some]
      have hd := zn_top hV hI hS
      have hF : zn_F (mm_sI N 35 0 1) = zn_F N := by
        funext p v
        unfold zn_F
        rw [zm_II, if_neg (by omega)]
      refine zh_some ⟨zf_tr (zf_mono hI.1 (fun a h => by unfold zn_A; omega)) (zf_I (by unfold zn_A; omega) _ _), ⟨by rw [hF]; exact hd.1, fun i hi => ?_⟩, by rw [zm_II, if_pos ⟨rfl, rfl⟩]⟩
      rw [hF, zm_II, if_neg (by omega)]
      exact hd.2 i hi
    · rw [Nat.zero_add]
      have := fb_sm_bound (f := fun k => zc_h (mm_I N 36 k)) (c := 2) (n := 416) (fun k _ => by unfold zc_h; split <;> (try split) <;> omega)
      exact this
