/-! ===== the reference: removeDead, foldConstants as actions ===== -/
section ZYB7
variable {M : mm_T} {s : zy_T}
theorem zy_editX {M2 : mm_T} {k u : Nat} (h : zy_M M s) {s' : zy_T} (hs : zy_u s' = zy_u s ∧ zy_n s' = zy_n s ∧ zy_t s' = zy_t s ∧ zy_c s' = zy_c s ∧ zy_v s' = zy_v s) (f : zf_X M M2 (fun a => a = 53 ∨ (55 ≤ a ∧ a ≤ 58)) k u) (g : ∀ k, 262 ≤ k → mm_I M2 53 k = mm_I M 53 k) (hS : zt_S M2 0 (zy_P s')) : zy_M M2 s' := by
  obtain ⟨h63, _, hK, hN, hx, he, ho⟩ := h
  obtain ⟨q1, q2, q3, q4, q5⟩ := hs
  have i : ∀ a, a ≤ 63 → ¬ (a = 53 ∨ (55 ≤ a ∧ a ≤ 58)) → ∀ j, mm_I M2 a j = mm_I M a j := fun a h1 z1 j => zu_i f (by omega) z1 j
  unfold zy_M
  rw [q1, q2, q3, q4, q5]
  refine ⟨by have := f.1; omega, hS, ⟨hK.1, (i 52 (by omega) (by omega) 3).trans hK.2.1, fun k hk => ⟨zt_H.slot (hK.2.2 k hk).1 (hK.2.2 k hk).2 (fun x hx => g _ (by omega)), (hK.2.2 k hk).2⟩⟩, ⟨(i 54 (by omega) (by omega) 0).trans hN.1, (i 54 (by omega) (by omega) 1).trans hN.2.1, fun Q e => ⟨zt_H.slot (hN.2.2.1 Q e).1 (hN.2.2.1 Q e).2 (fun k hk => g _ (by omega)), (hN.2.2.1 Q e).2⟩, fun Q e => ⟨zt_H.slot (hN.2.2.2 Q e).1 (hN.2.2.2 Q e).2 (fun k hk => g _ (by omega)), (hN.2.2.2 Q e).2⟩⟩, ⟨(i 52 (by omega) (by omega) 15).trans hx.1, hx.2.1, fun j hj => ⟨(i 60 (by omega) (by omega) j).trans (hx.2.2 j hj).1, (hx.2.2 j hj).2⟩⟩, ⟨(i 52 (by omega) (by omega) 16).trans he.1, (i 52 (by omega) (by omega) 17).trans he.2⟩, (i 52 (by omega) (by omega) 24).trans ho.1, ho.2.1, fun j hj => (i 62 (by omega) (by omega) j).trans (ho.2.2 j hj)⟩
theorem zy_removeDeadM (h : zy_M M s) (hB : mm_n M + 60 < st_B) : zy_Om (ff_M_removeDead 52 M) M ((0, (zv_removeDead s).1), (zv_removeDead s).2) := by
  have h0 := h.thr 0
  have t0 : mm_I (mm_sI M 52 4 0) 52 4 = 0 := by rw [zm_II, if_pos ⟨rfl, rfl⟩]
  unfold ff_M_removeDead
  rw [zq_gd (zt_e52 h.2.1), zp_I (zt_e52 h.2.1), Option.bind_some]
  refine zy_OmI (zy_f4 M 0) (fun a z => by unfold zy_Ar; omega) ?_
  have n0 : mm_n (mm_sI M 52 4 0) = mm_n M := rfl
  generalize mm_sI M 52 4 0 = M0 at h0 t0 n0 ⊢
  obtain ⟨M2, e2, x2, C2, t2, n2⟩ := zy_keepM h0 t0
  have hV := h.2.1.2.2.2.2
  have hni := hV.2.2.1
  obtain ⟨M3, e3, x3, o3, S3⟩ := zy_roundM C2.2.1 C2.1 (by omega)
  have S3' : zt_S M3 0 (zp_d1 (zy_P s)) := S3
  rw [e2, Option.bind_some]
  unfold bd_2
  rw [e3, Option.bind_some]
  show zy_Om (lf_M_removeDead_16 52 fu_L (nI (zp_ni (zy_P s) - zp_ni (zp_d1 (zy_P s)))) (nI (zp_ni (zy_P s) - zp_ni (zp_d1 (zy_P s)))) M3) M0 _
  suffices goal : zh_H (lf_M_removeDead_16 52 fu_L (nI (zp_ni (zy_P s) - zp_ni (zp_d1 (zy_P s)))) (nI (zp_ni (zy_P s) - zp_ni (zp_d1 (zy_P s)))) M3) (fun y => ∃ N, y = (nI (zp_ni (zy_P s) - zp_ni (zp_fx (zy_P s))), N) ∧ zf_X M2 N (fun a => a = 53 ∨ (55 ≤ a ∧ a ≤ 58)) 41 1640 ∧ (∀ k, 262 ≤ k → mm_I N 53 k = mm_I M2 53 k) ∧ zt_S N 0 (zp_fx (zy_P s))) by
    obtain ⟨y, e, N, rfl, x, o, S⟩ := goal
    rw [e]
    refine ⟨_, N, rfl, zu_wk (zu_tr x2 (zu_wk x (Nat.le_refl _) (Nat.le_refl _) (fun a z => by unfold zy_Ar; omega))) (by omega) (by omega) (fun a z => z), zy_editX (s' := zy_ed s (zp_fx (zy_P s))) C2 ⟨rfl, rfl, rfl, rfl, rfl⟩ x o S, ?_, fun _ => rfl⟩
    show mm_I N 52 4 = nI 0
    rw [zu_i x (by have := C2.1; omega) (by omega), t2]
    rfl
  have hd := zp_d1_ni (zy_P s)
  have st0 := zp_fx_step (zy_P s)
  refine zh_loop (F := fun fu (σ : Nat × zp_T × mm_T × Nat) => lf_M_removeDead_16 52 fu (nI σ.1) (nI (zp_ni (zy_P s) - zp_ni σ.2.1)) σ.2.2.1) (fun σ => zf_X M2 σ.2.2.1 (fun a => a = 53 ∨ (55 ≤ a ∧ a ≤ 58)) σ.2.2.2 (40 * σ.2.2.2) ∧ (∀ k, 262 ≤ k → mm_I σ.2.2.1 53 k = mm_I M2 53 k) ∧ zt_S σ.2.2.1 0 σ.2.1 ∧ zp_ni σ.2.1 ≤ zp_ni (zy_P s) ∧ σ.1 ≤ 40 ∧ zp_ni σ.2.1 + σ.2.2.2 ≤ zp_ni (zy_P s) + (if σ.1 = 0 then 1 else 0) ∧ (σ.1 = 0 → σ.2.1 = zp_fx (zy_P s)) ∧ (σ.1 ≠ 0 → zp_fx σ.2.1 = zp_fx (zy_P s))) (fun σ => if σ.1 = 0 then 0 else zp_ni σ.2.1 + 1) ?_ fu_L (zp_ni (zy_P s) - zp_ni (zp_d1 (zy_P s)), zp_d1 (zy_P s), M3, 1) ⟨x3, o3, S3', hd, by show zp_ni (zy_P s) - zp_ni (zp_d1 (zy_P s)) ≤ 40; omega, ?_, fun z => ?_, fun z => ?_⟩ (by rw [zs_fuel]; show (if zp_ni (zy_P s) - zp_ni (zp_d1 (zy_P s)) = 0 then 0 else zp_ni (zp_d1 (zy_P s)) + 1) < _; split <;> omega)
  · intro fu σ ⟨g1, g2, g3, g4, g4', g5, g6, g7⟩ k
    obtain ⟨d, Q, N, r⟩ := σ
    simp only at g1 g2 g3 g4 g4' g5 g6 g7
    show zh_H (lb_M_removeDead_16 52 (lf_M_removeDead_16 52 fu) (nI d) (nI (zp_ni (zy_P s) - zp_ni Q)) N) _
    unfold lb_M_removeDead_16
    by_cases d0 : d = 0
    · rw [if_pos d0] at g5
      rw [d0, if_pos (by decide)]
      have eQ := g6 d0
      subst eQ
      exact zh_some ⟨N, rfl, zu_wk g1 (by omega) (by omega) (fun a z => z), g2, g3⟩
    · rw [if_neg d0] at g5
      rw [if_neg (show ¬ nI d ≤ (0 : Int32) from nI_ge (a := 0) (by omega) (by omega))]
      have hQ : zp_V Q := g3.2.2.2.2
      have h63 : 63 ≤ mm_n N := by have := g1.1; have := C2.1; omega
      have hnN := g1.2.1
      obtain ⟨N2, e4, x4, o4, S4⟩ := zy_roundM g3 h63 (by omega)
      have hd2 := zp_d1_ni Q
      have st := zp_fx_step Q
      unfold bd_2
      rw [e4, Option.bind_some]
      show zh_H ((some (nI (zp_ni (zy_P s) - zp_ni Q) + nI (zp_ni Q - zp_ni (zp_d1 Q)))).bind fun x3 => lf_M_removeDead_16 52 fu (nI (zp_ni Q - zp_ni (zp_d1 Q))) x3 N2) _
      rw [Option.bind_some, nI_add, show zp_ni (zy_P s) - zp_ni Q + (zp_ni Q - zp_ni (zp_d1 Q)) = zp_ni (zy_P s) - zp_ni (zp_d1 Q) by omega]
      refine k (zp_ni Q - zp_ni (zp_d1 Q), zp_d1 Q, N2, r + 1) ⟨?_, fun k hk => by rw [o4 k hk, g2 k hk], S4, by show zp_ni (zp_d1 Q) ≤ _; omega, by show zp_ni Q - zp_ni (zp_d1 Q) ≤ 40; omega, ?_, fun z => ?_, fun z => ?_⟩ ?_
      · show zf_X M2 N2 _ (r + 1) (40 * (r + 1))
        rw [Nat.mul_add, Nat.mul_one]
        exact zu_tr g1 x4
      · show zp_ni (zp_d1 Q) + (r + 1) ≤ zp_ni (zy_P s) + (if zp_ni Q - zp_ni (zp_d1 Q) = 0 then 1 else 0)
        split <;> omega
      · have z' : zp_ni Q - zp_ni (zp_d1 Q) = 0 := z
        rw [if_neg (by omega)] at st
        show zp_d1 Q = _
        rw [← st]; exact g7 d0
      · have z' : zp_ni Q - zp_ni (zp_d1 Q) ≠ 0 := z
        rw [if_pos (by omega)] at st
        show zp_fx (zp_d1 Q) = _
        rw [← st]; exact g7 d0
      · show (if zp_ni Q - zp_ni (zp_d1 Q) = 0 then 0 else zp_ni (zp_d1 Q) + 1) < (if d = 0 then 0 else zp_ni Q + 1)
        rw [if_neg d0]
        split <;> omega
  · show zp_ni (zp_d1 (zy_P s)) + 1 ≤ zp_ni (zy_P s) + (if zp_ni (zy_P s) - zp_ni (zp_d1 (zy_P s)) = 0 then 1 else 0)
    split <;> omega
  · have z' : zp_ni (zy_P s) - zp_ni (zp_d1 (zy_P s)) = 0 := z
    rw [if_neg (by omega)] at st0
    exact st0.symm
  · have z' : zp_ni (zy_P s) - zp_ni (zp_d1 (zy_P s)) ≠ 0 := z
    rw [if_pos (by omega)] at st0
    exact st0.symm
theorem zt_top {o : Nat} {P : zp_T} (h : zt_S M o P) : ∃ F, zc_top P F := by
  have hV := h.2.2.2.2
  have hnb := hV.2.1
  obtain ⟨Z, _, hZ, sZ⟩ := zt_findsConst h
  exact ⟨_, zb_top hV (fun b hb v hv => hZ.2.1 b (by omega) v hv) hZ.2.2.1 (fun b hr y hy v hv => sZ b (zp_RB_lt hV hr) hr y hy v hv) hZ.2.2.2⟩
theorem zy_foldConstantsM (h : zy_M M s) (hB : mm_n M + 60 < st_B) : zy_Om (ff_M_foldConstants 52 M) M ((0, (zv_foldConstants s).1), (zv_foldConstants s).2) := by
  have h0 := h.thr 0
  have t0 : mm_I (mm_sI M 52 4 0) 52 4 = 0 := by rw [zm_II, if_pos ⟨rfl, rfl⟩]
  unfold ff_M_foldConstants
  rw [zq_gd (zt_e52 h.2.1), zp_I (zt_e52 h.2.1), Option.bind_some]
  refine zy_OmI (zy_f4 M 0) (fun a z => by unfold zy_Ar; omega) ?_
  have n0 : mm_n (mm_sI M 52 4 0) = mm_n M := rfl
  generalize mm_sI M 52 4 0 = M0 at h0 t0 n0 ⊢
  obtain ⟨M2, e2, x2, C2, t2, n2⟩ := zy_keepM h0 t0
  have hV := h.2.1.2.2.2.2
  have hni := hV.2.2.1
  have S2 : zt_S M2 0 (zy_P s) := C2.2.1
  obtain ⟨F, hF⟩ := zt_top S2
  rw [e2, Option.bind_some, show (40 : Int32) = nI 40 from rfl]
  unfold bd_2
  rw [zu_na (kd := 20) (n := 40) (by omega) (by omega), Option.bind_some]
  have h63 := C2.1
  have a0 : zf_X M2 (mm_al M2 (20, 40) 40) (fun _ => False) 1 40 := zu_al _ _ _ _
  have kW0 : mm_k (mm_al M2 (20, 40) 40) (mm_n M2 + 1) = (20, 40) := zu_alk M2 (20, 40) 40
  have S0 : zt_S (mm_al M2 (20, 40) 40) 0 (zy_P s) := S2.keepN h63 a0 (fun z => z) (fun z => z)
  show zy_Om (lf_M_foldConstants_16 (fun (M7 : mm_T) => lf_M_foldConstants_56 52 (mm_n M2 + 1) fu_L (0 : Int32) (0 : Int32) M7) 52 (mm_n M2 + 1) fu_L (0 : Int32) (mm_al M2 (20, 40) 40)) M0 _
  suffices goal : zh_H (lf_M_foldConstants_16 (fun (M7 : mm_T) => lf_M_foldConstants_56 52 (mm_n M2 + 1) fu_L (0 : Int32) (0 : Int32) M7) 52 (mm_n M2 + 1) fu_L (0 : Int32) (mm_al M2 (20, 40) 40)) (fun y => ∃ N, y = (nI (zp_fn (zy_P s)), N) ∧ zf_F (mm_al M2 (20, 40) 40) N (zy_BW (mm_n M2 + 1)) ∧ (∀ k, 262 ≤ k → mm_I N 53 k = mm_I (mm_al M2 (20, 40) 40) 53 k) ∧ zt_S N 0 (zp_fold (zy_P s) (zp_ni (zy_P s)))) by
    obtain ⟨y, e, N, rfl, f, o, S⟩ := goal
    rw [e]
    have f2 := zu_tr (zu_al M2 (20, 40) 40 (zy_BW (mm_n M2 + 1))) (zu_F f)
    have f3 := zu_sub f2 (B := fun a => a = 53 ∨ (55 ≤ a ∧ a ≤ 58)) (fun a q z => by unfold zy_BW at z; omega)
    refine ⟨_, N, rfl, zu_wk (zu_tr x2 (zu_wk f3 (Nat.le_refl _) (Nat.le_refl _) (fun a z => by unfold zy_Ar; omega))) (by omega) (by omega) (fun a z => z), zy_editX (s' := zy_ed s (zp_fold (zy_P s) (zp_ni (zy_P s)))) C2 ⟨rfl, rfl, rfl, rfl, rfl⟩ f3 (fun k hk => by rw [o k hk, zu_i a0 (by omega) (fun z => z)]) S, ?_, fun _ => rfl⟩
    show mm_I N 52 4 = nI 0
    rw [zu_i f3 (by omega) (by omega), t2]
    rfl
  have hW : 62 < mm_n M2 + 1 := by omega
  generalize mm_al M2 (20, 40) 40 = MA at S0 kW0 ⊢
  generalize mm_n M2 + 1 = W at hW kW0 ⊢
  have aux : ∀ (k0 : mm_T → Option (Int32 × mm_T)) (Q : Int32 × mm_T → Prop), (∀ N, zf_F MA N (fun a => (55 ≤ a ∧ a ≤ 58) ∨ a = W) → (∀ i, i < zp_ni (zy_P s) → mm_I N W i = if zp_k (zy_P s) i = 0 then -1 else zp_cof (zy_P s) i) → zh_H (k0 N) Q) → zh_H (lf_M_foldConstants_16 k0 52 W fu_L 0 MA) Q := by
    intro k0 Q hk
    refine zh_up (F := fun fu i N => lf_M_foldConstants_16 k0 52 W fu i N) (zp_ni (zy_P s)) (fun n N => zf_F MA N (fun a => (55 ≤ a ∧ a ≤ 58) ∨ a = W) ∧ ∀ i, i < n → mm_I N W i = if zp_k (zy_P s) i = 0 then -1 else zp_cof (zy_P s) i) ?_ ?_ fu_L 0 MA (Nat.zero_le _) (by rw [zs_fuel]; omega) ⟨zf_rfl _ _, fun i hi => absurd hi (Nat.not_lt_zero _)⟩
    · intro fu n N hn ⟨g1, g2⟩ k
      have SN : zt_S N 0 (zy_P s) := S0.keep g1 (zf_i g1 (by omega) 2) (fun k => zf_i g1 (by omega) k)
      have hk3 : zp_k (zy_P s) n ≤ 3 := (hV.2.2.2.2.2.2.2 n hn).1
      show zh_H (lb_M_foldConstants_16 k0 52 W (lf_M_foldConstants_16 k0 52 W fu) (nI n) N) _
      unfold lb_M_foldConstants_16
      rw [zt_ni SN, Option.bind_some, if_neg (nI_ge hn (by omega)), zt_k SN hn, Option.bind_some, zq_jp]
      have put : ∀ (v : Int32) (N2 : mm_T), zf_F N N2 (fun a => 55 ≤ a ∧ a ≤ 58) → v = (if zp_k (zy_P s) n = 0 then -1 else zp_cof (zy_P s) n) → zh_H ((aw_I N2 W (nI n) v).bind fun M5 => (some (nI n + (1 : Int32))).bind fun x5 => lf_M_foldConstants_16 k0 52 W fu x5 M5) Q := by
        intro v N2 f2 hv
        have kW2 : mm_k N2 W = (20, 40) := by rw [zf_k f2, zf_k g1, kW0]
        rw [zw_I kW2 (show n < 40 by omega) (by omega), Option.bind_some, Option.bind_some, nI_1]
        refine k _ ⟨zf_tr g1 (zf_tr (zf_mono f2 (fun a z => Or.inl z)) (zf_mono (zf_I1 _ _ _ _) (fun a z => by omega))), fun i hi => ?_⟩
        rw [zm_II]
        by_cases c : i = n
        · rw [if_pos ⟨rfl, c⟩, c, hv]
        · rw [if_neg (fun z => c z.2), zf_i f2 (by omega), g2 i (by omega)]
      by_cases c0 : zp_k (zy_P s) n = 0
      · rw [if_pos (by rw [c0]; rfl)]
        exact put (-1) N (zf_rfl _ _) (by rw [if_pos c0])
      · rw [if_neg (nI_ne0 (by omega) (by omega))]
        obtain ⟨N2, e2, f2⟩ := zt_cof SN hn
        unfold bd_2
        rw [e2, Option.bind_some]
        exact put (zp_cof (zy_P s) n) N2 (zf_mono f2 (fun a z => by unfold zt_A at z; exact z)) (by rw [if_neg c0])
    · intro fu N ⟨g1, g2⟩
      have SN : zt_S N 0 (zy_P s) := S0.keep g1 (zf_i g1 (by omega) 2) (fun k => zf_i g1 (by omega) k)
      show zh_H (lb_M_foldConstants_16 k0 52 W (lf_M_foldConstants_16 k0 52 W fu) (nI (zp_ni (zy_P s))) N) _
      unfold lb_M_foldConstants_16
      rw [zt_ni SN, Option.bind_some, if_pos (nI_le (Nat.le_refl _) (by omega))]
      exact hk N g1 g2
  refine aux _ _ (fun N0 f0 w0 => ?_)
  have SN0 : zt_S N0 0 (zy_P s) := S0.keep f0 (zf_i f0 (by omega) 2) (fun k => zf_i f0 (by omega) k)
  have kWN : mm_k N0 W = (20, 40) := by rw [zf_k f0, kW0]
  show zh_H (lf_M_foldConstants_56 52 W fu_L 0 0 N0) _
  refine zh_up (F := fun fu i (σ : Int32 × mm_T) => lf_M_foldConstants_56 52 W fu σ.1 i σ.2) (zp_ni (zy_P s)) (fun n σ => σ.1 = nI (fb_ct (zp_fd (zy_P s)) n) ∧ zt_E 0 N0 σ.2 ∧ zt_S σ.2 0 (zp_fold (zy_P s) n)) ?_ ?_ fu_L 0 (0, N0) (Nat.zero_le _) (by rw [zs_fuel]; omega) ⟨rfl, zt_E_rfl _ _, by rw [zp_fold_0]; exact SN0⟩
  · intro fu n σ hn ⟨g1, g2, g3⟩ k
    obtain ⟨x, N⟩ := σ
    simp only at g1 g2 g3
    have hk3 : zp_k (zy_P s) n ≤ 3 := (hV.2.2.2.2.2.2.2 n hn).1
    have ht8 : zp_t (zy_P s) n < 8 := (hV.2.2.2.2.2.2.2 n hn).2.1
    have kN : mm_k N W = (20, 40) := by rw [zf_k g2.1, kWN]
    have eg : ff_M_get 52 1 N = some (nI (zp_ni (zy_P s))) := zt_ni (P := zp_fold (zy_P s) n) g3
    have et : ff_M_it 52 (nI n) 1 N = some (nI (zp_t (zy_P s) n)) := by
      rw [zt_t (P := zp_fold (zy_P s) n) g3 hn]
      unfold zp_t
      rw [zp_fold_hi]
    have wn : mm_I N W n = if zp_k (zy_P s) n = 0 then -1 else zp_cof (zy_P s) n := by rw [zf_i g2.1 (by omega), w0 n hn]
    show zh_H (lb_M_foldConstants_56 52 W (lf_M_foldConstants_56 52 W fu) x (nI n) N) _
    unfold lb_M_foldConstants_56
    rw [eg, Option.bind_some, if_neg (nI_ge hn (by omega))]
    simp only [za_I kN (show n < 40 by omega) (by omega), Option.bind_some, zq_jp, nI_1]
    rw [wn]
    by_cases e : zp_fd (zy_P s) n = true
    · obtain ⟨hk12, hc⟩ := zp_b_iff.mp e
      have hk0 : zp_k (zy_P s) n ≠ 0 := by omega
      rcases zp_cof_W hV hF hn with z | ⟨v, hv, z⟩
      · exact absurd z hc
      · have ez : zi_n (zp_cof (zy_P s) n) = v := by rw [z]; exact (zi_Ai hv (by omega)).2
        rw [if_neg hk0, if_neg hc, et, Option.bind_some, z]
        obtain ⟨N2, e2, f2, h2⟩ := zt_seti (k := 0) (t := zp_t (zy_P s) n) (l := v) (c := 0) (r := 0) g3 hn (zp_iok_set ht8 hv)
        have e2' : ff_M_writes 52 (nI n) 0 (nI (zp_t (zy_P s) n)) (nI v) 0 0 N = some N2 := e2
        rw [e2', Option.bind_some]
        refine k (_, N2) ⟨?_, zt_E_tr g2 f2, by rw [zp_fold_t e, ez]; exact h2⟩
        show x + 1 = _
        rw [fb_ct_succ, e, g1, nI_1]; rfl
    · have ef : zp_fd (zy_P s) n = false := by
        cases h : zp_fd (zy_P s) n with
        | false => rfl
        | true => exact absurd h e
      have em : (if zp_k (zy_P s) n = 0 then (-1 : Int32) else zp_cof (zy_P s) n) = -1 := by
        by_cases c0 : zp_k (zy_P s) n = 0
        · rw [if_pos c0]
        · rw [if_neg c0]
          by_cases c3 : zp_k (zy_P s) n = 3
          · unfold zp_cof
            have ed : zp_df (zy_P s) n = none := by unfold zp_df; rw [if_neg (fun z => z.2 c3)]
            rw [ed]
          · by_cases cc : zp_cof (zy_P s) n = -1
            · exact cc
            · exact absurd (zp_b_iff.mpr ⟨by omega, cc⟩) e
      rw [em, if_pos rfl]
      refine k (x, N) ⟨?_, g2, by rw [zp_fold_f ef]; exact g3⟩
      rw [fb_ct_succ, ef, g1]; rfl
  · intro fu σ ⟨g1, g2, g3⟩
    obtain ⟨x, N⟩ := σ
    simp only at g1 g2 g3
    have eg : ff_M_get 52 1 N = some (nI (zp_ni (zy_P s))) := zt_ni (P := zp_fold (zy_P s) (zp_ni (zy_P s))) g3
    show zh_H (lb_M_foldConstants_56 52 W (lf_M_foldConstants_56 52 W fu) x (nI (zp_ni (zy_P s))) N) _
    unfold lb_M_foldConstants_56
    rw [eg, Option.bind_some, if_pos (nI_le (Nat.le_refl _) (by omega)), g1]
    exact zh_some ⟨N, rfl, zf_tr (zf_mono f0 (fun a z => by unfold zy_BW; omega)) (zf_mono g2.1 (fun a z => by unfold zy_BW; omega)), fun k hk => by rw [g2.2 k (by omega), zf_i f0 (by omega)], g3⟩
end ZYB7
