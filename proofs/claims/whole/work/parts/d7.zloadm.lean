/-! ===== loadProgram, the reference ===== -/
theorem zy_loadProgramM {M : mm_T} {s : zy_T} (h : zy_M M s) : zy_Om (ff_M_loadProgram 52 M) M ((0, (zv_load s).1), (zv_load s).2) := by
  have h0 := h.thr 0
  have t0 : mm_I (mm_sI M 52 4 0) 52 4 = nI 0 := by rw [zm_II, if_pos ⟨rfl, rfl⟩]; rfl
  unfold ff_M_loadProgram
  rw [zq_gd (zt_e52 h.2.1), zp_I (zt_e52 h.2.1), Option.bind_some]
  refine zy_OmI (zy_f4 M 0) (fun a z => by unfold zy_Ar; omega) ?_
  generalize mm_sI M 52 4 0 = M1 at h0 t0 ⊢
  have hR := h0.2.1.1
  have hx := h0.2.2.2.2.1
  have h7 := hx.2.1
  have f2 : zf_F M1 (mm_sI M1 52 2 9) (fun a => a = 52) := zf_I1 _ _ _ _
  have R2 := hR.keep f2
  have i2 : mm_I (mm_sI M1 52 2 9) 52 2 = nI 9 := by rw [zm_II, if_pos ⟨rfl, rfl⟩]; rfl
  have x2 : zt_tx (mm_sI M1 52 2 9) (zy_t s) := ⟨by rw [zm_II, if_neg (by omega)]; exact hx.1, hx.2.1, fun i hi => ⟨by rw [zm_II, if_neg (by omega)]; exact (hx.2.2 i hi).1, (hx.2.2 i hi).2⟩⟩
  rw [zp_I (zt_e52 h0.2.1), Option.bind_some]
  suffices goal : zh_H (lf_M_loadProgram_13 (fun (M4 : mm_T) => (pf_I M4 52 11 16 (0 : Int32)).bind fun M5 => (pf_I M5 52 11 17 (-1 : Int32)).bind fun M6 => (pf_I M6 52 11 18 (0 : Int32)).bind fun M7 => (ff_M_next 52 M7).bind fun M8 => lf_M_loadProgram_51 (fun (M10 : mm_T) => (gf_I M10 52 11 16).bind fun x5 => if x5 = 0 then ((ff_M_checksWays 52 M10).bind fun M16 => zR_j M16) else (zR_j M10)) 52 fu_L M8) 52 fu_L (0 : Int32) (mm_sI M1 52 2 9)) (zR_9 M1 (zv_load s).1 (zv_load s).2) by
    obtain ⟨y, ey, g1, g2, g3, g4⟩ := goal
    exact ⟨y.1, y.2, ey, g1, g2, g3, fun _ => g4⟩
  generalize eM2 : mm_sI M1 52 2 9 = M2 at R2 i2 x2 ⊢
  -- the slot is emptied
  have aux : ∀ (k0 : mm_T → Option (Int32 × mm_T)) (P : Int32 × mm_T → Prop), (∀ N, zt_E 9 M2 N → mm_I N 53 (262 * 9 + 0) = 0 → mm_I N 53 (262 * 9 + 1) = 0 → zh_H (k0 N) P) → zh_H (lf_M_loadProgram_13 k0 52 fu_L (0 : Int32) M2) P := by
    intro k0 P hk
    refine zh_up (F := fun fu q N => lf_M_loadProgram_13 k0 52 fu q N) 262 (fun j N => zt_E 9 M2 N ∧ ∀ k, k < j → mm_I N 53 (262 * 9 + k) = 0) ?_ ?_ fu_L 0 M2 (by omega) (by rw [zs_fuel]; omega) ⟨zt_E_rfl 9 M2, fun k hk => absurd hk (Nat.not_lt_zero _)⟩
    · intro fu j N hj ⟨g1, g2⟩ k
      have RN := R2.keep g1.1
      have iN : mm_I N 52 2 = nI 9 := (zf_i g1.1 (by omega) 2).trans i2
      show zh_H (lb_M_loadProgram_13 k0 52 (lf_M_loadProgram_13 k0 52 fu) (nI j) N) P
      unfold lb_M_loadProgram_13
      rw [if_neg (show ¬ (262 : Int32) ≤ nI j from nI_ge (b := 262) (a := j) hj (by omega)), zt_lay RN iN (by omega) hj, Option.bind_some, Option.bind_some, nI_1]
      refine k _ ⟨zt_E_tr g1 (zt_E_1 N 0 hj), fun x hx => ?_⟩
      by_cases c : x = j
      · rw [c, zm_II, if_pos ⟨rfl, rfl⟩]
      · rw [zm_II, if_neg (by omega)]; exact g2 x (by omega)
    · intro fu N ⟨g1, g2⟩
      show zh_H (lb_M_loadProgram_13 k0 52 (lf_M_loadProgram_13 k0 52 fu) (nI 262) N) P
      unfold lb_M_loadProgram_13
      rw [if_pos (by decide)]
      exact hk N g1 (g2 0 (by omega)) (g2 1 (by omega))
  refine aux _ _ (fun N gN z0 z1 => ?_)
  have RN := R2.keep gN.1
  have eN := zT_e52 RN
  have q1 := zR_F_1 N (k := 16) 0 (by omega) (by omega)
  have q2 := zR_F_tr q1 (zR_F_1 (mm_sI N 52 16 0) (k := 17) (-1) (by omega) (by omega))
  have q3 := zR_F_tr q2 (zR_F_1 (mm_sI (mm_sI N 52 16 0) 52 17 (-1)) (k := 18) 0 (by omega) (by omega))
  have e1 : (mm_k (mm_sI N 52 16 0) 52).1 = 11 := eN
  have e2 : (mm_k (mm_sI (mm_sI N 52 16 0) 52 17 (-1)) 52).1 = 11 := eN
  have j16 : mm_I (mm_sI (mm_sI (mm_sI N 52 16 0) 52 17 (-1)) 52 18 0) 52 16 = 0 := by rw [zm_II, if_neg (by omega), zm_II, if_neg (by omega), zm_II, if_pos ⟨rfl, rfl⟩]
  have j17 : mm_I (mm_sI (mm_sI (mm_sI N 52 16 0) 52 17 (-1)) 52 18 0) 52 17 = -1 := by rw [zm_II, if_neg (by omega), zm_II, if_pos ⟨rfl, rfl⟩]
  have j18 : mm_I (mm_sI (mm_sI (mm_sI N 52 16 0) 52 17 (-1)) 52 18 0) 52 18 = nI 0 := by rw [zm_II, if_pos ⟨rfl, rfl⟩]; rfl
  show zh_H ((pf_I N 52 11 16 (0 : Int32)).bind _) _
  rw [zp_I eN, Option.bind_some, zp_I e1, Option.bind_some, zp_I e2, Option.bind_some]
  generalize mm_sI (mm_sI (mm_sI N 52 16 0) 52 17 (-1)) 52 18 0 = M7 at q3 j16 j17 j18 ⊢
  have R7 := RN.keep q3.1
  have G7 : zR_G M2 M7 := zR_G_R (zR_G_E (zR_G_rfl M2) gN) q3
  have x7 : zt_tx M7 (zy_t s) := ⟨(G7.2.1 15 (by omega)).trans x2.1, x2.2.1, fun i hi => ⟨(zf_i G7.1 (by omega) i).trans (x2.2.2 i hi).1, (x2.2.2 i hi).2⟩⟩
  obtain ⟨M8, e8, f8, t8⟩ := zT_nextM R7 x7 (Nat.zero_le _) j18
  have r8 := f8.r
  have S8 : zR_S M2 M8 (zy_t s) zQ_0 (fun _ => (0, 0)) 0 0 := by
    refine ⟨zR_G_R G7 r8, ⟨R7.keep f8.1, zT_txk x7 f8, t8, (f8.2 16 (by omega)).trans j16, (f8.2 17 (by omega)).trans j17⟩, (f8.2 2 (by omega)).trans ((G7.2.1 2 (by omega)).trans i2), ⟨?_, ?_, fun b hb => absurd hb (Nat.not_lt_zero _), fun b hb => absurd hb (Nat.not_lt_zero _), fun b hb => absurd hb (Nat.not_lt_zero _)⟩, fun b hb => absurd hb (Nat.not_lt_zero _), zQ_V0⟩
    · rw [zf_i f8.1 (by omega), zf_i q3.1 (by omega), z0]; rfl
    · rw [zf_i f8.1 (by omega), zf_i q3.1 (by omega), z1]; rfl
  rw [e8, Option.bind_some, zs_fuel]
  generalize ek : (fun (M10 : mm_T) => (gf_I M10 52 11 16).bind fun x5 => if x5 = 0 then ((ff_M_checksWays 52 M10).bind fun M16 => zR_j M16) else (zR_j M10)) = k0
  obtain ⟨M10, e10, g10⟩ := zR_go k0 701 701 1000000 zQ_0 (fun _ => (0, 0)) 0 0 M8 (Nat.le_refl _) S8 rfl (by omega) (by omega) (by omega)
  rw [e10, ← ek]
  show zh_H ((gf_I M10 52 11 16).bind fun x5 => if x5 = 0 then ((ff_M_checksWays 52 M10).bind fun M16 => zR_j M16) else (zR_j M10)) _
  rw [← eM2] at g10
  unfold zv_load zT_parse
  cases er : zT_go (zy_t s) 701 false zQ_0 (fun _ => (0, 0)) 0 with
  | inl a =>
    rw [er] at g10
    obtain ⟨e, n1, S10⟩ := g10
    obtain ⟨N', e11, g11⟩ := zR_checks S10
    rw [zg_I (zR_e S10.2.1), Option.bind_some, S10.2.1.2.2.2.1, if_pos rfl, e11, Option.bind_some, zT_bind_l]
    cases ec : zT_chk a.1 a.2 (zp_nb a.1) 0 with
    | none =>
      rw [ec] at g11
      have g11' : N' = M10 := g11
      subst g11'
      exact zR_jS h0 t0 S10 (zT_chk_V S10.2.2.2.2.2 n1 ec)
    | some r =>
      rw [ec] at g11
      exact zR_jE h0 t0 (S10.er g11.1 g11.2)
  | inr a =>
    rw [er] at g10
    have E10 : zR_E (mm_sI M1 52 2 9) M10 (zy_t s) a := g10
    rw [zg_I (zR_e E10.2.1), Option.bind_some, if_neg (zR_ne E10.2.1)]
    exact zR_jE h0 t0 E10
/-! what the error says -/
