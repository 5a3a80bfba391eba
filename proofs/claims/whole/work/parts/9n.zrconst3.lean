/-! ===== the reference: constants, how a block spreads ===== -/
def zb_I (M : mm_T) (P : zp_T) (N : mm_T) : Prop := zf_F M N zt_A ∧ (∀ b, b < 12 → ∀ v, v < 8 → zc_W (zb_K N b v)) ∧ (∀ v, v < 8 → zc_ge 0 (zb_K N 0 v)) ∧ ∀ G, zc_pre P G → ∀ b, zp_RB P b → ∀ v, v < 8 → zc_ge (zb_K N b v) (G (zp_fp P b) v)
def zb_mu (N : mm_T) : Nat := fb_sm (fun k => zc_h (mm_I N 57 k)) 96
def zb_S (P : zp_T) (b : Nat) (N : mm_T) : Prop := zp_RB P b → ∀ y, zp_ed P b y = true → ∀ v, v < 8 → zc_ge (zb_st P (zb_K N) b (zp_st P (b + 1) - zp_st P b) v) (zb_K N y v)
theorem zb_Ku (N : mm_T) {y v : Nat} (z : Int32) {b w : Nat} (hv : v < 8) (hw : w < 8) : zb_K (mm_sI N 57 (8 * y + v) z) b w = if b = y ∧ w = v then z else zb_K N b w := by
  unfold zb_K
  rw [zm_II]
  by_cases c : b = y ∧ w = v
  · rw [if_pos c, if_pos ⟨rfl, by rw [c.1, c.2]⟩]
  · rw [if_neg c, if_neg (fun q => c (by have := q.2; omega))]
theorem zb_upd {M N : mm_T} {P : zp_T} (hI : zb_I M P N) {y v : Nat} {x : Int32} (hy : y < 12) (hv : v < 8) (hx : zc_W x) (hg : ∀ G, zc_pre P G → zp_RB P y → zc_ge x (G (zp_fp P y) v)) : zb_I M P (mm_sI N 57 (8 * y + v) (zc_meet (zb_K N y v) x)) ∧ zb_mu (mm_sI N 57 (8 * y + v) (zc_meet (zb_K N y v) x)) ≤ zb_mu N ∧ (zc_meet (zb_K N y v) x ≠ zb_K N y v → zb_mu (mm_sI N 57 (8 * y + v) (zc_meet (zb_K N y v) x)) < zb_mu N) := by
  obtain ⟨h1, h2, h3, h4⟩ := hI
  refine ⟨⟨zf_tr h1 (zf_I (by unfold zt_A; omega) _ _), fun b hb w hw => ?_, fun w hw => ?_, fun G hG b hb w hw => ?_⟩, ?_⟩
  · rw [zb_Ku N _ hv hw]
    split
    · exact zc_meet_W (h2 y hy v hv) hx
    · exact h2 b hb w hw
  · rw [zb_Ku N _ hv hw]
    split
    · rename_i c
      have := h3 w hw
      rw [c.1, c.2] at this
      exact zc_ge_tr this (zc_meet_l _ _)
    · exact h3 w hw
  · rw [zb_Ku N _ hv hw]
    split
    · rename_i c
      rw [c.1, c.2]
      rw [c.1] at hb
      exact zc_meet_g (h4 G hG y hb v hv) (hg G hG hb)
    · exact h4 G hG b hb w hw
  · have e : (fun k => zc_h (mm_I (mm_sI N 57 (8 * y + v) (zc_meet (zb_K N y v) x)) 57 k)) = fun k => if k = 8 * y + v then zc_h (zc_meet (zb_K N y v) x) else zc_h (mm_I N 57 k) := by
      funext k
      rw [zm_II]
      by_cases c : k = 8 * y + v
      · rw [if_pos c, if_pos ⟨rfl, c⟩]
      · rw [if_neg c, if_neg (fun q => c q.2)]
    have u := fb_sm_upd (fun k => zc_h (mm_I N 57 k)) (zc_h (zc_meet (zb_K N y v) x)) (i := 8 * y + v) (n := 96) (by omega)
    have m := zc_h_meet (zb_K N y v) x
    have ek : zc_h (mm_I N 57 (8 * y + v)) = zc_h (zb_K N y v) := rfl
    rw [ek] at u
    unfold zb_mu
    rw [e]
    exact ⟨by omega, fun q => by have := m.2 q; omega⟩
theorem zb_mu_le (N : mm_T) : zb_mu N ≤ 192 := by
  unfold zb_mu
  have := fb_sm_bound (f := fun k => zc_h (mm_I N 57 k)) (c := 2) (n := 96) (fun k _ => by
    show zc_h _ ≤ 2
    unfold zc_h
    split
    · omega
    · split <;> omega)
  omega
section ZTN
variable {M N : mm_T} {o : Nat} {P : zp_T}
theorem zt_spreads (h : zt_S N o P) (hI : zb_I M P N) {b : Nat} (hr : zp_RB P b) : ∃ (c : Bool) (N' : mm_T), ff_M_spreads 52 (nI b) N = some (zb_B c, N') ∧ zb_I M P N' ∧ (c = true → zb_mu N' < zb_mu N) ∧ (c = false → (∀ x, mm_I N' 57 x = mm_I N 57 x) ∧ zb_S P b N') := by
  have hV := h.2.2.2.2
  have hnb := hV.2.1
  have hb := zp_RB_lt hV hr
  have hse := hV.2.2.2.2.1 b hb
  have hw2 := zp_w_le hV hb
  obtain ⟨N1, e1, f1, g1⟩ := zt_comesTo h hb hse (Nat.le_refl _) (hI.2.1 b (by omega))
  have i57 : ∀ x, mm_I N1 57 x = mm_I N 57 x := fun x => zf_i f1 (by omega) x
  have eK : zb_K N1 = zb_K N := by
    funext c w
    unfold zb_K
    rw [i57]
  have hI1 : zb_I M P N1 := by
    unfold zb_I
    rw [eK]
    exact ⟨zf_tr hI.1 (zf_mono f1 (fun a q => by unfold zt_A; omega)), hI.2⟩
  have emu : zb_mu N1 = zb_mu N := by
    unfold zb_mu
    simp only [i57]
  have nowW : ∀ v, v < 8 → zc_W (mm_I N1 58 v) := fun v hv => by
    rw [g1 v hv]
    exact zb_st_W hV hb (hI.2.1 b (by omega)) _ (by omega) v hv
  have nowG : ∀ G, zc_pre P G → ∀ y, zp_ed P b y = true → ∀ v, v < 8 → zc_ge (mm_I N1 58 v) (G (zp_fp P y) v) := by
    intro G hG y hy v hv
    rw [g1 v hv]
    have s := zb_st_ge hV (K := zb_K N) hG hr (hI.2.2.2 G hG b hr) (zp_st P (b + 1) - zp_st P b) (by omega) v hv
    have epl : zp_pl P b (zp_st P b + (zp_st P (b + 1) - zp_st P b)) = 40 + b := by
      rw [show zp_st P b + (zp_st P (b + 1) - zp_st P b) = zp_st P (b + 1) by omega]
      unfold zp_pl
      rw [if_neg (Nat.lt_irrefl _)]
    rw [epl] at s
    have op : zp_OP P (40 + b) := ⟨Or.inr ⟨by omega, by omega⟩, by
      have : zp_bp P (40 + b) = b := by unfold zp_bp; rw [if_neg (by omega)]; omega
      rw [this]; exact hr⟩
    have t := hG.2 _ _ op (zp_sc_out hV hy) v hv
    have nd : zc_out P G (40 + b) v = G (40 + b) v := by
      unfold zc_out
      rw [if_neg (fun z => by
        unfold zp_df at z
        rw [if_neg (fun w => by have := w.1; omega)] at z
        cases z)]
    rw [nd] at t
    exact zc_ge_tr s t
  suffices goal : zh_H (ff_M_spreads 52 (nI b) N) (fun y => ∃ (c : Bool) (N' : mm_T), y = (zb_B c, N') ∧ zb_I M P N' ∧ (c = true → zb_mu N' < zb_mu N) ∧ (c = false → (∀ x, mm_I N' 57 x = mm_I N 57 x) ∧ zb_S P b N')) by
    obtain ⟨y, e, c, N', rfl, z⟩ := goal
    exact ⟨c, N', e, z⟩
  unfold ff_M_spreads
  rw [zq_gd (zt_e52 h), zt_endOf h hb, Option.bind_some, e1, Option.bind_some]
  have hS1 : zt_S N1 o P := h.keepA f1 (fun a q => by unfold zt_A; omega)
  refine zh_up (F := fun fu j (s : Int32 × mm_T) => lf_M_spreads_14 52 (nI b) fu s.1 j s.2) (zp_w P b) (fun j s => ∃ d : Bool, s.1 = zb_B d ∧ zf_F N1 s.2 (fun x => x = 57) ∧ zb_I M P s.2 ∧ zb_mu s.2 ≤ zb_mu N ∧ (d = true → zb_mu s.2 < zb_mu N) ∧ (d = false → (∀ x, mm_I s.2 57 x = mm_I N 57 x) ∧ ∀ m, m < j → ∀ u, u < 8 → zc_ge (mm_I N1 58 u) (zb_K N (zp_way P b m) u))) ?_ ?_ fu_L 0 (0, N1) (Nat.zero_le _) (by rw [zs_fuel]; omega) ⟨false, rfl, zf_rfl _ _, hI1, Nat.le_of_eq emu, (by intro z; cases z), fun _ => ⟨i57, fun m hm => absurd hm (Nat.not_lt_zero _)⟩⟩
  · intro fu j s hj ⟨d, p1, p2, p3, p4, p5, p6⟩ k
    obtain ⟨q, N2⟩ := s
    simp only at p1 p2 p3 p4 p5 p6
    have hS2 : zt_S N2 o P := hS1.keepA p2 (fun a q => by unfold zt_A; omega)
    have hway : zp_ed P b (zp_way P b j) = true := (zp_ed_way hV).mpr ⟨hb, j, hj, rfl⟩
    have hyl := (zp_ed_lt hV hway).2
    show zh_H (lb_M_spreads_14 52 (nI b) (lf_M_spreads_14 52 (nI b) fu) q (nI j) N2) _
    unfold lb_M_spreads_14
    rw [zt_ways hS2 hb, Option.bind_some, if_neg (nI_ge hj (by omega))]
    simp only [Option.bind_some, nI_1]
    refine zh_up (F := fun fu v (s : Int32 × mm_T) => lf_M_spreads_26 _ 52 (nI b) (nI j) fu s.1 v s.2) 8 (fun v s => ∃ d : Bool, s.1 = zb_B d ∧ zf_F N1 s.2 (fun x => x = 57) ∧ zb_I M P s.2 ∧ zb_mu s.2 ≤ zb_mu N ∧ (d = true → zb_mu s.2 < zb_mu N) ∧ (d = false → (∀ x, mm_I s.2 57 x = mm_I N 57 x) ∧ (∀ m, m < j → ∀ u, u < 8 → zc_ge (mm_I N1 58 u) (zb_K N (zp_way P b m) u)) ∧ ∀ u, u < v → zc_ge (mm_I N1 58 u) (zb_K N (zp_way P b j) u))) ?_ ?_ fu_L 0 (q, N2) (Nat.zero_le _) (by rw [zs_fuel]; omega) ⟨d, p1, p2, p3, p4, p5, fun z => ⟨(p6 z).1, (p6 z).2, fun u hu => absurd hu (Nat.not_lt_zero _)⟩⟩
    · intro fu' v s hv ⟨d, p1, p2, p3, p4, p5, p6⟩ k'
      obtain ⟨q, N2⟩ := s
      simp only at p1 p2 p3 p4 p5 p6
      have hS2 : zt_S N2 o P := hS1.keepA p2 (fun a q => by unfold zt_A; omega)
      have k57 : mm_k N2 57 = (20, 96) := by
        have := hS2.1
        unfold zt_R at this
        simp only [this]
      have r57 : ar_I N2 57 (nI (8 * zp_way P b j + v)) = some (zb_K N2 (zp_way P b j) v) := za_I k57 (by omega) (by omega)
      have now : mm_I N2 58 v = mm_I N1 58 v := zf_i p2 (by omega) v
      show zh_H (lb_M_spreads_26 _ 52 (nI b) (nI j) (lf_M_spreads_26 _ 52 (nI b) (nI j) fu') q (nI v) N2) _
      unfold lb_M_spreads_26
      rw [if_neg (show ¬ (8 : Int32) ≤ nI v from nI_ge (b := 8) hv (by omega)), zt_way hS2 hb hj, Option.bind_some, show (8 : Int32) = nI 8 from rfl, zi_mul, nI_add, Option.bind_some]
      simp only [zg_R (zt_e52 hS2), Option.bind_some, hS2.1.2.1.2.2.2.2.2.1, hS2.1.2.1.2.2.2.2.1, r57, zt_nowAt hS2 hv, zt_meets, zq_jp, now, nI_1]
      rw [zw_I k57 (show 8 * zp_way P b j + v < 96 by omega) (by omega)]
      simp only [Option.bind_some]
      obtain ⟨u1, u2, u3⟩ := zb_upd p3 (y := zp_way P b j) (v := v) (x := mm_I N1 58 v) (by omega) hv (nowW v hv) (fun G hG _ => nowG G hG _ hway v hv)
      have f57 : zf_F N1 (mm_sI N2 57 (8 * zp_way P b j + v) (zc_meet (zb_K N2 (zp_way P b j) v) (mm_I N1 58 v))) (fun x => x = 57) := zf_tr p2 (zf_I (A := fun x => x = 57) rfl _ _)
      by_cases c : zc_meet (zb_K N2 (zp_way P b j) v) (mm_I N1 58 v) = zb_K N2 (zp_way P b j) v
      · rw [if_pos c, Int32.or_zero]
        refine k' (q, _) ⟨d, p1, f57, u1, Nat.le_trans u2 p4, fun z => Nat.lt_of_le_of_lt u2 (p5 z), fun z => ?_⟩
        obtain ⟨z1, z2, z3⟩ := p6 z
        refine ⟨fun x => ?_, z2, fun u hu => ?_⟩
        · show mm_I (mm_sI N2 57 _ _) 57 x = _
          rw [zm_II, c]
          split
          · rename_i w
            rw [w.2, ← z1]
            rfl
          · exact z1 x
        · rcases Nat.lt_or_ge u v with w | w
          · exact z3 u w
          · have uv : u = v := by omega
            rw [uv]
            have := zc_meet_r (zb_K N2 (zp_way P b j) v) (mm_I N1 58 v)
            rw [c] at this
            have ek : zb_K N2 (zp_way P b j) v = zb_K N (zp_way P b j) v := z1 _
            rw [ek] at this
            exact this
      · rw [if_neg c]
        have lt := u3 c
        have ed : zb_B d ||| 1 = zb_B true := by cases d <;> rfl
        rw [p1, ed]
        exact k' (zb_B true, _) ⟨true, rfl, f57, u1, Nat.le_trans u2 p4, fun _ => Nat.lt_of_lt_of_le lt p4, (by intro z; cases z)⟩
    · intro fu' s ⟨d, p1, p2, p3, p4, p5, p6⟩
      obtain ⟨q, N2⟩ := s
      simp only at p1 p2 p3 p4 p5 p6
      show zh_H (lb_M_spreads_26 _ 52 (nI b) (nI j) (lf_M_spreads_26 _ 52 (nI b) (nI j) fu') q (nI 8) N2) _
      unfold lb_M_spreads_26
      rw [if_pos (show (8 : Int32) ≤ nI 8 from nI_le (a := 8) (Nat.le_refl _) (by omega))]
      refine k (q, N2) ⟨d, p1, p2, p3, p4, p5, fun z => ⟨(p6 z).1, fun m hm u hu => ?_⟩⟩
      rcases Nat.lt_or_ge m j with w | w
      · exact (p6 z).2.1 m w u hu
      · rw [show m = j by omega]
        exact (p6 z).2.2 u hu
  · intro fu s ⟨d, p1, p2, p3, p4, p5, p6⟩
    obtain ⟨q, N2⟩ := s
    simp only at p1 p2 p3 p4 p5 p6
    have hS2 : zt_S N2 o P := hS1.keepA p2 (fun a q => by unfold zt_A; omega)
    show zh_H (lb_M_spreads_14 52 (nI b) (lf_M_spreads_14 52 (nI b) fu) q (nI (zp_w P b)) N2) _
    unfold lb_M_spreads_14
    rw [zt_ways hS2 hb, Option.bind_some, if_pos (nI_le (Nat.le_refl _) (by omega)), p1, zb_Zok, Option.bind_some]
    refine zh_some ⟨d, N2, rfl, p3, p5, fun z => ⟨(p6 z).1, fun _ y hy v hv => ?_⟩⟩
    obtain ⟨_, m, hm, ey⟩ := (zp_ed_way hV).mp hy
    have eK2 : zb_K N2 = zb_K N := by
      funext c w
      unfold zb_K
      rw [(p6 z).1]
    rw [eK2, ey, ← g1 v hv]
    exact (p6 z).2 m hm v hv
end ZTN
