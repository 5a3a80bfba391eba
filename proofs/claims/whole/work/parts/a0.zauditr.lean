/-! ===== auditDifference, the reference ===== -/
theorem zu_sub {M M' : mm_T} {A B : Nat → Prop} {k u : Nat} (h : zf_X M M' A k u) (hAB : ∀ a, a ≤ mm_n M → A a → B a) : zf_X M M' B k u := by
  obtain ⟨a1, a2, a3, a4, a5, a6⟩ := h
  exact ⟨a1, a2, a3, a4, a5, fun a q hA => a6 a q (fun z => hA (hAB a q z))⟩
section ZTA0
variable {M : mm_T} {o : Nat} {P : zp_T}
/-- the question whether an initial value reaches a place, with its frame -/
theorem zt_first55 (h : zt_S M o P) {b k v : Nat} (hb : b < zp_nb P) (h1 : zp_st P b ≤ k) (h2 : k ≤ zp_st P (b + 1)) (hv : v < 8) : ∃ (c : Bool) (M' : mm_T), ff_M_isFirstAtPlace 52 (nI b) (nI k) (nI v) M = some (zb_B c, M') ∧ zf_F M M' (fun x => x = 55) ∧ (c = true ↔ zp_RI P v (zp_pl P b k)) := by
  have hV := h.2.2.2.2
  have hnb := hV.2.1
  have e52 := zt_e52 h
  have hse := zp_st_le hV (b := b + 1) (by omega)
  obtain ⟨a1, a2, a3⟩ := zp_pl_all hV hb h1 h2
  have key : zp_RI P v (zp_pl P b k) ↔ zs_R (fun x => x = 0) (zw_E P (some v) none) b ∧ ¬ zp_dw P (zp_st P b) k v := by
    rw [zp_RI_iff hV]
    unfold zp_RS
    rw [a2, a3]
    exact ⟨fun q => q.2.2, fun q => ⟨hv, a1, q⟩⟩
  unfold ff_M_isFirstAtPlace
  obtain ⟨c, ec, hc⟩ := zt_dw h h1 (show k ≤ zp_ni P by omega) (show v < 2 ^ 31 by omega)
  rw [zq_gd e52, zt_firstOf h (by omega), Option.bind_some, ec, Option.bind_some]
  cases c with
  | true =>
    rw [if_neg (by decide)]
    exact ⟨false, M, rfl, zf_rfl _ _, by simp; exact fun q => (key.mp q).2 (hc.mp rfl)⟩
  | false =>
    rw [if_pos (by decide)]
    obtain ⟨M1, M2, e1, e2, f2, b2, g2⟩ := zt_walk0 h (vo := some v) (bo := none) (fun u hu => by cases hu; exact hv) (fun v hv => by cases hv)
    have hR2 := h.1.keep f2
    have e52' : (mm_k M2 52).1 = 11 := by rw [hR2.1]
    obtain ⟨c, ec, hc2⟩ := zt_seen hR2 b2 (show b < 12 by omega)
    have ew : ff_M_isFirstAt 52 (nI b) (nI v) M = some (zb_B c, M2) := by
      unfold ff_M_isFirstAt
      rw [zq_gd e52, e1, Option.bind_some, show (-1 : Int32) = zo_N none from rfl, show nI v = zo_N (some v) from rfl, e2, Option.bind_some, zg_R e52', Option.bind_some, hR2.2.1.2.2.1, ec, Option.bind_some, zb_Zok, Option.bind_some]
    unfold bd_2
    rw [ew, Option.bind_some]
    have iff : c = true ↔ zp_RI P v (zp_pl P b k) := by
      rw [key]
      refine (hc2.trans (g2 b (by omega))).trans (zw_FI.trans ⟨fun q => ⟨q, fun z => by have := hc.mpr z; cases this⟩, fun q => q.1⟩)
    cases c with
    | true =>
      refine ⟨true, M2, ?_, f2, iff⟩
      show (if (1 : Int32) = 0 then _ else _) = _
      rw [if_neg (by decide)]
      rfl
    | false =>
      refine ⟨false, M2, ?_, f2, iff⟩
      show (if (0 : Int32) = 0 then _ else _) = _
      rw [if_pos rfl]
      rfl
/-- what the audit writes: W is its new row -/
def zj_BW (W a : Nat) : Prop := a = 52 ∨ (55 ≤ a ∧ a ≤ 59) ∨ a = W
def zj_FW (W : Nat) (M M' : mm_T) : Prop := zf_F M M' (zj_BW W) ∧ ∀ k, k < 10 ∨ 13 < k → mm_I M' 52 k = mm_I M 52 k
theorem zj_FW_rfl (W : Nat) (M : mm_T) : zj_FW W M M := ⟨zf_rfl _ _, fun _ _ => rfl⟩
theorem zj_FW_tr {W : Nat} {M M1 M2 : mm_T} (h : zj_FW W M M1) (h2 : zj_FW W M1 M2) : zj_FW W M M2 := ⟨zf_tr h.1 h2.1, fun k hk => (h2.2 k hk).trans (h.2 k hk)⟩
theorem zj_FW_J {W : Nat} {M M1 : mm_T} (h : zj_F M M1) : zj_FW W M M1 := ⟨zf_mono h.1 (fun a q => by unfold zj_B at q; unfold zj_BW; omega), h.2⟩
theorem zj_FW_A {W : Nat} {M M1 : mm_T} (h : zf_F M M1 zt_A) : zj_FW W M M1 := ⟨zf_mono h (fun a q => by unfold zt_A at q; unfold zj_BW; omega), fun k _ => zf_i h (by unfold zt_A; omega) k⟩
theorem zj_FW_W {W : Nat} (hW : 62 < W) (M : mm_T) (k : Nat) (v : Int32) : zj_FW W M (mm_sI M W k v) := ⟨zf_I (by unfold zj_BW; omega) _ _, fun j hj => by rw [zm_II, if_neg (by omega)]⟩
theorem zt_S.keepW {W : Nat} {M M' : mm_T} {o : Nat} {P : zp_T} (hW : 62 < W) (h : zt_S M o P) (f : zj_FW W M M') : zt_S M' o P := h.keep f.1 (f.2 2 (by omega)) (fun k => zf_i f.1 (by unfold zj_BW; omega) k)
/-- the inner loop: no difference at one place of a run -/
theorem zj_auditIn (h : zt_S M o P) {W : Nat} (hW : 62 < W) (kW : mm_k M W = (22, 8)) {s : zj_T} {b k : Nat} (hs : zj_M M P s b k) (hok : zj_ok P s) (hi : zj_inv P s) (hw : ∀ v, v < 8 → mm_I M W v = zb_B (zj_w s v)) {F : Nat → Nat → Int32} (hF : zc_top P F) (hn : ∀ v, v < 8 → mm_I M 58 v = F (zj_p s) v) (k0 : Int32 → mm_T → Option (Int32 × mm_T)) (p3 : Int32) (Q : Int32 × mm_T → Prop) (hk : ∀ N, zf_F M N (fun x => x = 55) → zh_H (k0 0 N) Q) : zh_H (lf_M_auditDifference_51 k0 52 W p3 fu_L 0 0 M) Q := by
  have hV := h.2.2.2.2
  refine zh_up (F := fun fu i N => lf_M_auditDifference_51 k0 52 W p3 fu 0 i N) 8 (fun i N => zf_F M N (fun x => x = 55)) ?_ ?_ fu_L 0 M (Nat.zero_le _) (by rw [zs_fuel]; omega) (zf_rfl _ _)
  · intro fu v N hv g kk
    have hS : zt_S N o P := h.keepA g (fun a q => by unfold zt_A; omega)
    have e58 : mm_I N 58 v = F (zj_p s) v := by rw [zf_i g (by omega), hn v hv]
    have e59 : mm_I N 59 v = nI (zj_v s v) := by rw [zf_i g (by omega), hs.2.2.2.1 v hv]
    have eW : mm_I N W v = zb_B (zj_w s v) := by rw [zf_i g (by omega), hw v hv]
    have kWN : mm_k N W = (22, 8) := by rw [zf_k g, kW]
    have k58 : mm_R N 52 8 = 58 := hS.1.2.1.2.2.2.2.2.1
    have hx := hok.1 v hv
    have one0 : ∀ N2, ff_M_one 0 N2 = some 0 := fun N2 => zt_one false N2
    show zh_H (lb_M_auditDifference_51 k0 52 W p3 (lf_M_auditDifference_51 k0 52 W p3 fu) 0 (nI v) N) _
    unfold lb_M_auditDifference_51
    rw [if_neg (show ¬ (8 : Int32) ≤ nI v from nI_ge (b := 8) hv (by omega))]
    simp only [zg_R (zt_e52 hS), Option.bind_some, k58, zt_nowAt hS hv, e58, zq_jp, (zt_r59 hS.1).1, za_I (zt_r59 hS.1).2 hv (show 8 < 2 ^ 31 by omega), e59, one0, za_Z kWN hv (show 8 < 2 ^ 31 by omega), eW, zg_I (zt_e52 hS), Int32.add_zero, nI_1]
    have e10 : mm_I N 52 10 = nI b := by rw [zf_i g (by omega), hs.2.1]
    have e11 : mm_I N 52 11 = nI k := by rw [zf_i g (by omega), hs.2.2.1]
    have rest : zh_H (if zb_B (zj_w s v) = 0 then bd_2 (ff_M_isFirstAtPlace 52 (mm_I N 52 10) (mm_I N 52 11) (nI v) N) fun x17 M8 => if x17 = 0 then (ff_M_one 1 M8).bind fun x12 => (some ((0 : Int32) + x12)).bind fun x13 => lf_M_auditDifference_51 k0 52 W p3 fu x13 (nI (v + 1)) M8 else lf_M_auditDifference_51 k0 52 W p3 fu 0 (nI (v + 1)) M8 else lf_M_auditDifference_51 k0 52 W p3 fu 0 (nI (v + 1)) N) Q := by
      cases ew : zj_w s v with
      | true =>
        rw [if_neg (by decide)]
        exact kk N g
      | false =>
        rw [if_pos (by decide), e10, e11]
        obtain ⟨c, N2, e2, f2, c2⟩ := zt_first55 hS hs.1.1 hs.1.2.1 hs.1.2.2.1 hv
        have ct : c = true := by
          refine c2.mpr ?_
          rw [hs.1.2.2.2]
          rcases hi.2.2 v hv with z | z
          · rw [ew] at z; cases z
          · exact z
        unfold bd_2
        rw [e2, Option.bind_some, ct]
        show zh_H (if (1 : Int32) = 0 then _ else _) _
        rw [if_neg (by decide)]
        exact kk N2 (zf_tr g f2)
    rcases zj_inv_F hi hok hF hv with z | z
    · rw [z, if_neg (nI_pos (by omega)), if_pos rfl]
      exact rest
    · rw [z, if_pos (by decide)]
      exact rest
  · intro fu N g
    show zh_H (lb_M_auditDifference_51 k0 52 W p3 (lf_M_auditDifference_51 k0 52 W p3 fu) 0 (nI 8) N) _
    unfold lb_M_auditDifference_51
    rw [if_pos (show (8 : Int32) ≤ nI 8 from nI_le (a := 8) (Nat.le_refl _) (by omega))]
    exact hk N g
theorem zj_M_W {W : Nat} {s : zj_T} {b k : Nat} {N N2 : mm_T} (hs : zj_M N P s b k) (f : zf_F N N2 (fun x => (55 ≤ x ∧ x ≤ 58) ∨ x = W)) (hW : 62 < W) : zj_M N2 P s b k := by
  obtain ⟨h1, h2, h3, h4, h5, h6⟩ := hs
  exact ⟨h1, (zf_i f (by omega) _).trans h2, (zf_i f (by omega) _).trans h3, fun v hv => (zf_i f (by omega) _).trans (h4 v hv), (zf_i f (by omega) _).trans h5, (zf_i f (by omega) _).trans h6⟩
theorem zt_auditDifference (h : zt_S M o P) (h62 : 62 ≤ mm_n M) (hB : mm_n M + 20 < st_B) : zt_U (ff_M_auditDifference 52 M) M (0, 0) := by
  have hV := h.2.2.2.2
  have h1 := h.thrown 0
  have hni := hV.2.2.1
  unfold ff_M_auditDifference
  rw [zq_gd (zt_e52 h), zp_I (zt_e52 h), Option.bind_some, show (8 : Int32) = nI 8 from rfl]
  unfold bd_2
  rw [zu_na (M := mm_sI M 52 4 0) (kd := 22) (n := 8) (by omega) (by show mm_n M + 1 < st_B; omega), Option.bind_some]
  have a0 : zf_X (mm_sI M 52 4 0) (mm_al (mm_sI M 52 4 0) (22, 8) 8) zt_A 1 8 := zu_al _ _ _ _
  have eW : mm_n (mm_sI M 52 4 0) = mm_n M := rfl
  have kW0 : mm_k (mm_al (mm_sI M 52 4 0) (22, 8) 8) (mm_n M + 1) = (22, 8) := zu_alk (mm_sI M 52 4 0) (22, 8) 8
  have iW0 : ∀ j, mm_I (mm_al (mm_sI M 52 4 0) (22, 8) 8) (mm_n M + 1) j = 0 := fun j => zu_alI (mm_sI M 52 4 0) (22, 8) 8 j
  have h2 : zt_S (mm_al (mm_sI M 52 4 0) (22, 8) 8) o P := by
    refine ⟨?_, ?_, h1.2.2.1, h1.2.2.2.1.keep (fun k => zu_i a0 (by rw [eW]; omega) (by unfold zt_A; omega) k), hV⟩
    · have hk : ∀ a, a ≤ 62 → mm_k (mm_al (mm_sI M 52 4 0) (22, 8) 8) a = mm_k (mm_sI M 52 4 0) a := fun a ha => zu_k a0 (by rw [eW]; omega)
      have hr : ∀ a, a ≤ 62 → ∀ j, mm_R (mm_al (mm_sI M 52 4 0) (22, 8) 8) a j = mm_R (mm_sI M 52 4 0) a j := fun a ha j => zu_R a0 (by rw [eW]; omega) j
      have := h1.1
      unfold zt_R at this ⊢
      simp only [hk, hr, Nat.reduceLeDiff]
      exact this
    · rw [zu_i a0 (by rw [eW]; omega) (by unfold zt_A; omega)]
      exact h1.2.1
  show zt_U ((ff_M_begins 52 (mm_al (mm_sI M 52 4 0) (22, 8) 8)).bind fun M3 => (ff_M_findsConstants 52 M3).bind fun M4 => lf_M_auditDifference_22 52 (mm_n M + 1) fu_L 0 0 M4) M (0, 0)
  suffices goal : zh_H ((ff_M_begins 52 (mm_al (mm_sI M 52 4 0) (22, 8) 8)).bind fun M3 => (ff_M_findsConstants 52 M3).bind fun M4 => lf_M_auditDifference_22 52 (mm_n M + 1) fu_L 0 0 M4) (fun y => ∃ N, y = (0, N) ∧ zj_FW (mm_n M + 1) (mm_al (mm_sI M 52 4 0) (22, 8) 8) N) by
    obtain ⟨y, e, N, rfl, f⟩ := goal
    rw [e]
    have f1 : zf_X M (mm_sI M 52 4 0) (zj_BW (mm_n M + 1)) 0 0 := zu_F (zf_I (by unfold zj_BW; omega) 4 0)
    have f2 : zf_X (mm_sI M 52 4 0) (mm_al (mm_sI M 52 4 0) (22, 8) 8) (zj_BW (mm_n M + 1)) 1 8 := zu_al _ _ _ _
    have f3 := zu_tr (zu_tr f1 f2) (zu_F f.1)
    refine ⟨0, N, rfl, zu_wk (zu_sub f3 (B := zt_B) (fun a q z => by unfold zj_BW at z; unfold zt_B; omega)) (by omega) (by omega) (fun a q => q), fun k hk => ?_, ?_, fun _ => rfl⟩
    · rw [f.2 k (by omega), zu_i a0 (by rw [eW]; omega) (by unfold zt_A; omega), zm_II, if_neg (by omega)]
    · rw [f.2 4 (by omega), zu_i a0 (by rw [eW]; omega) (by unfold zt_A; omega), zm_II, if_pos ⟨rfl, rfl⟩]
      rfl
  have hW : 62 < mm_n M + 1 := by omega
  generalize mm_al (mm_sI M 52 4 0) (22, 8) 8 = M2 at h2 kW0 iW0 ⊢
  generalize mm_n M + 1 = W at hW kW0 iW0 ⊢
  obtain ⟨M3, e3, f3, s3⟩ := zj_beginsR h2
  have h3 := h2.keepJ f3
  rw [e3, Option.bind_some]
  obtain ⟨M4, e4, hI4, s4⟩ := zt_findsConst h3
  have h4 : zt_S M4 o P := h3.keepA hI4.1 (fun a h => h)
  have top4 : zc_top P (zb_F P (zb_K M4)) := zb_top hV (fun b hb v hv => hI4.2.1 b (by have := hV.2.1; omega) v hv) hI4.2.2.1 (fun b hr y hy v hv => s4 b (zp_RB_lt hV hr) hr y hy v hv) hI4.2.2.2
  rw [e4, Option.bind_some]
  have i24 : zj_FW W M2 M4 := zj_FW_tr (zj_FW_J f3) (zj_FW_A hI4.1)
  refine zh_up (F := fun fu i N => lf_M_auditDifference_22 52 W fu 0 i N) 200 (fun i N => zj_FW W M2 N ∧ (∃ b k, zj_M N P (zj_run P i) b k) ∧ (∀ v, v < 8 → mm_I N W v = zb_B (zj_w (zj_run P i) v)) ∧ ∀ x, mm_I N 57 x = mm_I M4 57 x) ?_ ?_ fu_L 0 M4 (Nat.zero_le _) (by rw [zs_fuel]; omega) ⟨i24, ⟨0, 0, zj_M_W (W := W) s3 (zf_mono hI4.1 (fun a q => by unfold zt_A at q; omega)) hW⟩, fun v hv => ?_, fun x => rfl⟩
  · intro fu i N hi ⟨g1, ⟨b, k, g2⟩, g3, g4⟩ kk
    have hS : zt_S N o P := h2.keepW hW g1
    have hok := zj_ok_run hV i
    have hiv := zj_inv_run hV i
    have hb := g2.1.1
    have hnb := hV.2.1
    have hse := zp_st_le hV (b := b + 1) (by omega)
    have eK : zb_K N = zb_K M4 := by funext c w; unfold zb_K; rw [g4]
    have hr : zp_RB P b := by
      have := hiv.1.2
      rw [← g2.1.2.2.2, (zp_pl_all hV hb g2.1.2.1 g2.1.2.2.1).2.1] at this
      exact this
    show zh_H (lb_M_auditDifference_22 52 W (lf_M_auditDifference_22 52 W fu) 0 (nI i) N) _
    unfold lb_M_auditDifference_22
    rw [if_neg (show ¬ (200 : Int32) ≤ nI i from nI_ge (b := 200) hi (by omega)), zg_I (zt_e52 hS), Option.bind_some, g2.2.2.2.2.2]
    cases eo : zj_o (zj_run P i) with
    | true =>
      rw [if_neg (by decide)]
      exact zh_some ⟨N, rfl, g1⟩
    | false =>
      have r1 : zj_run P (i + 1) = zj_step P (zj_run P i) := by
        show (if zj_o (zj_run P i) = true then zj_run P i else zj_step P (zj_run P i)) = _
        rw [if_neg (by rw [eo]; decide)]
      obtain ⟨N5, e5, f5, c5⟩ := zt_comesTo hS hb g2.1.2.1 g2.1.2.2.1 (fun v hv => by rw [eK]; exact hI4.2.1 b (by omega) v hv)
      rw [if_pos (by decide), zg_I (zt_e52 hS), Option.bind_some, g2.2.1, zg_I (zt_e52 hS), Option.bind_some, g2.2.2.1, e5, Option.bind_some]
      have hS5 : zt_S N5 o P := hS.keepA f5 (fun a q => by unfold zt_A; omega)
      have m5 : zj_M N5 P (zj_run P i) b k := zj_M_W (W := W) g2 (zf_mono f5 (fun a q => by omega)) hW
      have kW5 : mm_k N5 W = (22, 8) := by rw [zf_k f5, zf_k g1.1, kW0]
      refine zj_auditIn hS5 hW kW5 m5 hok hiv (fun v hv => by rw [zf_i f5 (by omega), g3 v hv]) top4 (fun v hv => ?_) _ _ _ (fun N9 f9 => ?_)
      · rw [c5 v hv, ← g2.1.2.2.2, zb_F_pl hV hr g2.1.2.1 g2.1.2.2.1, eK]
      · have hS9 : zt_S N9 o P := hS5.keepA f9 (fun a q => by unfold zt_A; omega)
        have m9 : zj_M N9 P (zj_run P i) b k := zj_M_W (W := W) m5 (zf_mono f9 (fun a q => by omega)) hW
        have w9 : ∀ v, v < 8 → mm_I N9 W v = zb_B (zj_w (zj_run P i) v) := fun v hv => by rw [zf_i f9 (by omega), zf_i f5 (by omega), g3 v hv]
        have k9 : ∀ x, mm_I N9 57 x = mm_I M4 57 x := fun x => by rw [zf_i f9 (by omega), zf_i f5 (by omega), g4]
        have F9 : zj_FW W M2 N9 := zj_FW_tr g1 (zj_FW_A (zf_tr (zf_mono f5 (fun a q => by unfold zt_A; omega)) (zf_mono f9 (fun a q => by unfold zt_A; omega))))
        have kW9 : mm_k N9 W = (22, 8) := by rw [zf_k f9, kW5]
        have aft : ∀ N6 (e : (ff_M_steps 52 N9) = some N6), True := fun _ _ => trivial
        have go : ∀ (N8 N6 : mm_T) (b2 k2 : Nat), ff_M_steps 52 N8 = some N6 → zj_F N8 N6 → zj_M N6 P (zj_step P (zj_run P i)) b2 k2 → zj_FW W M2 N8 → (∀ x, mm_I N8 57 x = mm_I M4 57 x) → (∀ v, v < 8 → mm_I N8 W v = zb_B (zj_w (zj_step P (zj_run P i)) v)) → zh_H ((ff_M_steps 52 N8).bind fun M11 => (some (nI i + (1 : Int32))).bind fun x26 => lf_M_auditDifference_22 52 W fu 0 x26 M11) (fun y => ∃ N, y = (0, N) ∧ zj_FW W M2 N) := by
          intro N8 N6 b2 k2 e6 f6 m6 F8 k8 w8
          rw [e6, Option.bind_some, Option.bind_some, nI_1]
          refine kk N6 ⟨zj_FW_tr F8 (zj_FW_J f6), ⟨b2, k2, by rw [r1]; exact m6⟩, fun v hv => ?_, fun x => ?_⟩
          · rw [r1, zf_i f6.1 (by unfold zj_B; omega), w8 v hv]
          · rw [zf_i f6.1 (by unfold zj_B; omega), k8]
        show zh_H ((gf_I N9 52 11 11).bind _) _
        rw [zg_I (zt_e52 hS9), Option.bind_some, m9.2.2.1, zg_I (zt_e52 hS9), Option.bind_some, m9.2.1, zt_endOf hS9 hb, Option.bind_some]
        simp only [zq_jp]
        by_cases c : k = zp_st P (b + 1)
        · rw [if_pos (nI_le (by omega) (by omega))]
          obtain ⟨N6, b2, k2, e6, f6, m6, -⟩ := zj_exitR hS9 m9 hok eo c
          refine go N9 N6 b2 k2 e6 f6 m6 F9 k9 (fun v hv => ?_)
          have ew : zj_w (zj_step P (zj_run P i)) = zj_w (zj_run P i) := by
            have ep : ¬ zj_p (zj_run P i) < 40 := by rw [← g2.1.2.2.2, c]; unfold zp_pl; rw [if_neg (Nat.lt_irrefl _)]; omega
            unfold zj_step
            rw [if_neg ep]
            split <;> rfl
          rw [ew, w9 v hv]
        · have hk : k < zp_st P (b + 1) := by have := g2.1.2.2.1; omega
          have hik : k < zp_ni P := by omega
          have ep : zj_p (zj_run P i) = k := by rw [← g2.1.2.2.2]; unfold zp_pl; rw [if_pos hk]
          have hq := hV.2.2.2.2.2.2.2 k hik
          have ht8 : zp_t P k < 8 := hq.2.1
          rw [if_neg (nI_ge hk (by omega)), Option.bind_some, zt_isDef hS9 hik, Option.bind_some]
          by_cases k3 : zp_k P k = 3
          · rw [if_pos (by simp [k3, zb_B])]
            obtain ⟨N6, e6, f6, m6, -, -⟩ := zj_instR hS9 m9 hok c
            refine go N9 N6 b (k + 1) e6 f6 m6 F9 k9 (fun v hv => ?_)
            have ew : zj_w (zj_step P (zj_run P i)) = zj_w (zj_run P i) := by
              unfold zj_step
              rw [ep, if_pos (show k < 40 by omega), if_pos k3]
              rfl
            rw [ew, w9 v hv]
          · rw [if_neg (by simp [k3, zb_B]), Option.bind_some, zt_t hS9 hik, Option.bind_some, show (1 : Int32) = zb_B true from rfl, zw_Z kW9 ht8 (by omega), Option.bind_some]
            have f8 : zj_FW W N9 (mm_sI N9 W (zp_t P k) (zb_B true)) := zj_FW_W hW _ _ _
            have hS8 := h2.keepW hW (zj_FW_tr F9 f8)
            have m8 : zj_M (mm_sI N9 W (zp_t P k) (zb_B true)) P (zj_run P i) b k := zj_M_W (W := W) m9 (zf_I (A := fun x => (55 ≤ x ∧ x ≤ 58) ∨ x = W) (Or.inr rfl) _ _) hW
            obtain ⟨N6, e6, f6, m6, -, -⟩ := zj_instR hS8 m8 hok c
            refine go _ N6 b (k + 1) e6 f6 m6 (zj_FW_tr F9 f8) (fun x => by rw [zm_II, if_neg (by omega)]; exact k9 x) (fun v hv => ?_)
            have ew : zj_w (zj_step P (zj_run P i)) v = (zj_w (zj_run P i) v || decide (v = zp_t P k)) := by
              unfold zj_step
              rw [ep, if_pos (show k < 40 by omega), if_neg k3]
              rfl
            rw [zm_II, ew]
            by_cases cv : v = zp_t P k
            · rw [if_pos ⟨rfl, cv⟩, decide_eq_true cv, Bool.or_true]
            · rw [if_neg (fun z => cv z.2), decide_eq_false cv, Bool.or_false, w9 v hv]
  · intro fu N ⟨g1, _⟩
    show zh_H (lb_M_auditDifference_22 52 W (lf_M_auditDifference_22 52 W fu) 0 (nI 200) N) _
    unfold lb_M_auditDifference_22
    rw [if_pos (show (200 : Int32) ≤ nI 200 from nI_le (a := 200) (Nat.le_refl _) (by omega))]
    exact zh_some ⟨N, rfl, g1⟩
  · rw [zf_i hI4.1 (by unfold zt_A; omega), zf_i f3.1 (by unfold zj_B; omega), iW0]
    rfl
end ZTA0
