/-! ===== constants are folded; the class ===== -/
noncomputable def zp_fd (P : zp_T) (j : Nat) : Bool := zp_b ((zp_k P j = 1 ∨ zp_k P j = 2) ∧ zp_cof P j ≠ -1)
noncomputable def zp_fold (P : zp_T) (n : Nat) : zp_T := (zp_nb P, zp_ni P, zp_st P, P.2.2.2.1, fun j => if j < n ∧ zp_fd P j = true then (0, zp_t P j, zi_n (zp_cof P j), 0, 0) else P.2.2.2.2 j)
theorem zp_cof_W {P : zp_T} (hV : zp_V P) {F : Nat → Nat → Int32} (hF : zc_top P F) {i : Nat} (hi : i < zp_ni P) : zp_cof P i = -1 ∨ ∃ c, c < 1000 ∧ zp_cof P i = nI c := by
  unfold zp_cof
  cases ed : zp_df P i with
  | none => exact Or.inl rfl
  | some t =>
    have ht : t < 8 := zp_df_lt hV (Or.inl hi) ed
    have pt := (zp_pl_all hV (zp_bk_lt hV hi) (k := i + 1) (by have := zp_bk_lo hV hi; omega) (by have := zp_bk_hi hV hi; omega))
    have p52 := zp_pt_lt hV pt.1
    show zp_cst P (zp_pl P (zp_bk P i) (i + 1)) t = -1 ∨ ∃ c, c < 1000 ∧ zp_cst P (zp_pl P (zp_bk P i) (i + 1)) t = nI c
    unfold zp_cst
    rw [zp_CT_eq hF p52 ht]
    rcases hF.2.2.2 _ p52 t ht with z | z | z
    · rw [if_pos z]; exact Or.inl rfl
    · rw [if_neg (by rw [z]; decide)]; exact Or.inl z
    · obtain ⟨c, hc, e⟩ := z
      rw [if_neg (by rw [e]; exact zb_n2 hc)]
      exact Or.inr ⟨c, hc, e⟩
theorem zp_fold_0 (P : zp_T) : zp_fold P 0 = P := by
  unfold zp_fold
  have : (fun j => if j < 0 ∧ zp_fd P j = true then (0, zp_t P j, zi_n (zp_cof P j), 0, 0) else P.2.2.2.2 j) = P.2.2.2.2 := by
    funext j
    rw [if_neg (fun z => absurd z.1 (Nat.not_lt_zero _))]
  rw [this]
  rfl
theorem zp_fold_t {P : zp_T} {n : Nat} (h : zp_fd P n = true) : zp_fold P (n + 1) = zp_seti (zp_fold P n) n (0, zp_t P n, zi_n (zp_cof P n), 0, 0) := by
  unfold zp_fold zp_seti
  show (zp_nb P, zp_ni P, zp_st P, P.2.2.2.1, _) = (zp_nb P, zp_ni P, zp_st P, P.2.2.2.1, _)
  congr 4
  funext j
  show _ = if j = n then _ else (if j < n ∧ zp_fd P j = true then _ else _)
  by_cases c : j = n
  · rw [if_pos c, if_pos ⟨by omega, by rw [c]; exact h⟩, c]
  · rw [if_neg c]
    by_cases c2 : j < n ∧ zp_fd P j = true
    · rw [if_pos c2, if_pos ⟨by omega, c2.2⟩]
    · rw [if_neg c2, if_neg (fun z => c2 ⟨by omega, z.2⟩)]
theorem zp_fold_f {P : zp_T} {n : Nat} (h : zp_fd P n = false) : zp_fold P (n + 1) = zp_fold P n := by
  unfold zp_fold
  congr 4
  funext j
  by_cases c2 : j < n ∧ zp_fd P j = true
  · rw [if_pos c2, if_pos ⟨by omega, c2.2⟩]
  · rw [if_neg c2, if_neg (fun z => c2 ⟨by
      rcases Nat.lt_or_ge j n with q | q
      · exact q
      · have : j = n := by omega
        rw [this, h] at z
        exact absurd z.2 (by decide), z.2⟩)]
theorem zp_fold_hi (P : zp_T) (n : Nat) : (zp_fold P n).2.2.2.2 n = P.2.2.2.2 n := if_neg (fun z => absurd z.1 (Nat.lt_irrefl _))
theorem zp_fold_V {P : zp_T} (hV : zp_V P) {F : Nat → Nat → Int32} (hF : zc_top P F) (n : Nat) (hn : n ≤ zp_ni P) : zp_V (zp_fold P n) := by
  induction n with
  | zero => rw [zp_fold_0]; exact hV
  | succ n ih =>
    cases e : zp_fd P n with
    | false => rw [zp_fold_f e]; exact ih (by omega)
    | true =>
      rw [zp_fold_t e]
      refine zp_seti_V (ih (by omega)) (zp_iok_set (hV.2.2.2.2.2.2.2 n (by omega)).2.1 ?_)
      rcases zp_cof_W hV hF (show n < zp_ni P by omega) with z | ⟨c, hc, z⟩
      · have := (zp_b_iff.mp e).2
        exact absurd z this
      · rw [z]
        have := (zi_Ai hc (by omega)).2
        rw [this]; exact hc
noncomputable def zp_fn (P : zp_T) : Nat := fb_ct (zp_fd P) (zp_ni P)
noncomputable def zv_foldConstants (s : zy_T) : Int32 × zy_T := (nI (zp_fn (zy_P s)), zy_ed s (zp_fold (zy_P s) (zp_ni (zy_P s))))
section ZYB3
variable {M : mm_T} {s : zy_T}
theorem zn_given {P : zp_T} (q : zc_Q M P) (zd : zd_C M P) {i : Nat} (hi : i < zp_ni P) : ff_C_constantGiven 35 (nI i) M = some (zp_cof P i) := by
  have hV := q.2.1.2.2
  have hni := hV.2.2.1
  have hC := q.2.2.1.2.2.2.2
  have hbp : zp_bp P i = zp_bk P i := by unfold zp_bp; rw [if_pos (by omega)]
  unfold ff_C_constantGiven
  rw [zq_gd (zn_e35 q), zg_R (zn_e35 q), Option.bind_some, hC.2.1.2, zd_at hC.2.2.2 (show i < 40 by omega) (by omega), Option.bind_some]
  obtain ⟨z1, z2⟩ := zd.2 i (by omega)
  unfold zp_cof
  cases ed : zp_df P i with
  | none =>
    rw [z2 (fun w => w.2.2 ed), zi_max2 (Or.inl rfl), if_pos rfl, Option.bind_some]
  | some t =>
    have ht : t < 8 := zp_df_lt hV (Or.inl hi) ed
    have pt := (zp_pl_all hV (zp_bk_lt hV hi) (k := i + 1) (by have := zp_bk_lo hV hi; omega) (by have := zp_bk_hi hV hi; omega))
    have p52 := zp_pt_lt hV pt.1
    unfold zp_cst
    dsimp only
    rw [zp_CT_eq zd.1 p52 ht]
    by_cases co : zp_OP P i
    · have hr : zp_RB P (zp_bk P i) := by rw [← hbp]; exact co.2
      rw [z1 hi co (by rw [ed]; simp), zc_top_step hV zd.1 hi hr ht]
      have eo : zc_out P (zn_F M) i t = zc_res P (zn_F M) i := by
        unfold zc_out
        rw [if_pos ed]
      rw [eo, zi_max2 (zc_res_W hV hi (fun v hv => zd.1.2.2.2 i (by omega) v hv)), Option.bind_some]
    · rw [z2 (fun w => co w.2.1), zd.1.2.2.1 _ p52 (fun w => co ⟨Or.inl hi, by rw [hbp]; have := w.2; rw [pt.2.1] at this; exact this⟩) t ht, zi_max2 (Or.inl rfl), Option.bind_some]
theorem zn_givenK {N : mm_T} (hC : zk_C M) (hN : zk_C N) (e : ∀ j, mm_I N 37 j = mm_I M 37 j) {i : Nat} (hi : i < 40) : ff_C_constantGiven 35 (nI i) N = ff_C_constantGiven 35 (nI i) M := by
  unfold ff_C_constantGiven
  rw [zq_gd (by rw [hN.1]), zq_gd (by rw [hC.1]), zg_R (by rw [hN.1]), Option.bind_some, zg_R (by rw [hC.1]), Option.bind_some, hN.2.1.2, hC.2.1.2, zd_at hN.2.2.2 hi (by omega), zd_at hC.2.2.2 hi (by omega), Option.bind_some, Option.bind_some, e]
  rfl
theorem zy_foldConstants (h : zy_C M s) (hB : mm_n M + 8 < st_B) : ∃ M', ff_D_foldConstants 1 M = some ((zv_foldConstants s).1, M') ∧ zy_Y M M' zy_A 100 2000 ∧ zy_C M' (zv_foldConstants s).2 := by
  have hV := h.2.2.1.2.2
  have hni := hV.2.2.1
  obtain ⟨M0, e0, f0, q0, zd0⟩ := zc_constants h.2
  have C0 : zy_C M0 s := h.quest (zu_F f0) q0
  have hn0 : mm_n M0 = mm_n M := f0.1
  obtain ⟨M1, e1, y1, C1⟩ := zy_keep C0 (by omega)
  have C1' : zy_C M1 (zy_ed s (zy_P s)) := C1
  have hF := zd0.1
  have hC0 := q0.2.2.1.2.2.2.2
  have y01 : zy_Y M M1 zy_A 7 109 := zy_Ywk (zy_Ytr (zy_Ywk (zy_YX (zu_F f0)) (Nat.le_refl _) (Nat.le_refl _) (fun a _ z => by unfold zc_A at z; unfold zy_A; omega)) (zy_Ah_A y1)) (by omega) (by omega) (fun a _ z => z)
  have h63 := C0.1.1
  have e37 : ∀ j, mm_I M1 37 j = mm_I M0 37 j := fun j => (y1.2.2.2.2.2 37 (by omega) (by unfold zy_Ah; omega) j).2.1
  unfold ff_D_foldConstants
  rw [zq_gd (zc_e1 h.2)]
  unfold bd_2
  rw [e0, Option.bind_some]
  show ∃ M', ((gf_R M0 1 10 4).bind _) = _ ∧ _
  rw [zg_R (zc_e1 q0), Option.bind_some, q0.1.2.2.2.2.2.1, zg_R (zc_e1 q0), Option.bind_some, q0.1.2.1, e1, Option.bind_some]
  have aux : ∀ (k0 : Int32 → mm_T → Option (Int32 × mm_T)) (Q : Int32 × mm_T → Prop), (∀ N, zf_F M1 N (zo_A 45) → zo_H N 45 (zp_fold (zy_P s) (zp_ni (zy_P s))) → zh_H (k0 (nI (zp_fn (zy_P s))) N) Q) → zh_H (lf_D_foldConstants_20 k0 1 35 fu_L 0 0 M1) Q := by
    intro k0 Q hk
    refine zh_up (F := fun fu i (σ : Int32 × mm_T) => lf_D_foldConstants_20 k0 1 35 fu σ.1 i σ.2) (zp_ni (zy_P s)) (fun i σ => σ.1 = nI (fb_ct (zp_fd (zy_P s)) i) ∧ zf_F M1 σ.2 (zo_A 45) ∧ zo_H σ.2 45 (zp_fold (zy_P s) i)) ?_ ?_ fu_L 0 (0, M1) (Nat.zero_le _) (by rw [zs_fuel]; omega) ⟨rfl, zf_rfl _ _, by rw [zp_fold_0]; exact C1.2.2.1.2.1⟩
    · intro fu i σ hi ⟨g1, g2, g3⟩ k
      obtain ⟨x, N⟩ := σ
      simp only at g1 g2 g3
      have hl := zl_F g2
      have kD := C1.2.1.keepL hl
      have eN : (mm_k N 1).1 = 10 := by rw [kD.1]
      have hPN := C1.2.2.1.1.keep g2
      have hCN := C1.2.2.2.1.2.2.2.2.keepL hl
      have hVi := zp_fold_V hV hF i (by omega)
      have ek : zp_k (zp_fold (zy_P s) i) i = zp_k (zy_P s) i := by unfold zp_k; rw [zp_fold_hi]
      have edf : zp_df (zp_fold (zy_P s) i) i = zp_df (zy_P s) i := by unfold zp_df zp_k zp_t; rw [zp_fold_hi]
      have hk3 : zp_k (zy_P s) i ≤ 3 := (hV.2.2.2.2.2.2.2 i hi).1
      have ht8 : zp_t (zy_P s) i < 8 := (hV.2.2.2.2.2.2.2 i hi).2.1
      have cg : ff_C_constantGiven 35 (nI i) N = some (zp_cof (zy_P s) i) := by
        rw [zn_givenK (M := M0) hC0 hCN (fun j => by rw [zf_i g2 (by unfold zo_A; omega), e37]) (by omega)]
        exact zn_given q0 zd0 hi
      have ekind : ff_P_kindAt 45 (nI i) N = some (nI (zp_k (zy_P s) i)) := by
        rw [zr_kindAt hPN g3 hVi (Or.inl hi), if_pos (show i < 40 by omega), ek]
      have eins : gf_I N 45 7 1 = some (nI (zp_ni (zy_P s))) := zr_instr (P := zp_fold (zy_P s) i) hPN g3
      show zh_H (lb_D_foldConstants_20 k0 1 35 (lf_D_foldConstants_20 k0 1 35 fu) x (nI i) N) _
      unfold lb_D_foldConstants_20
      simp only [zg_R eN, Option.bind_some, kD.2.1, eins]
      rw [if_neg (nI_ge hi (by omega)), ekind, Option.bind_some, cg, Option.bind_some]
      simp only [zq_jp, Option.bind_some, nI_1]
      have no : zp_fd (zy_P s) i = false → zh_H (lf_D_foldConstants_20 k0 1 35 fu x (nI (i + 1)) N) Q := by
        intro e
        refine k (x, N) ⟨?_, g2, by rw [zp_fold_f e]; exact g3⟩
        rw [fb_ct_succ, e, g1]; rfl
      have yes : (zp_k (zy_P s) i = 1 ∨ zp_k (zy_P s) i = 2) → zh_H (if zp_cof (zy_P s) i = (-1 : Int32) then lf_D_foldConstants_20 k0 1 35 fu x (nI (i + 1)) N else (ff_P_definedAt 45 (nI i) N).bind fun x13 => (ff_O_set x13 (zp_cof (zy_P s) i) N).bind fun x14 => (ff_P_replace 45 (nI i) x14 N).bind fun M4 => lf_D_foldConstants_20 k0 1 35 fu (x + (1 : Int32)) (nI (i + 1)) M4) Q := by
        intro hk12
        by_cases c : zp_cof (zy_P s) i = -1
        · rw [if_pos c]
          exact no (zp_bF (fun z => z.2 c))
        · rw [if_neg c]
          have e : zp_fd (zy_P s) i = true := zp_b_iff.mpr ⟨hk12, c⟩
          have ed : zp_df (zy_P s) i = some (zp_t (zy_P s) i) := by unfold zp_df; rw [if_pos ⟨by omega, by omega⟩]
          have edd : ff_P_definedAt 45 (nI i) N = some (nI (zp_t (zy_P s) i)) := by
            rw [zr_definedAt hPN g3 hVi (Or.inl hi), edf, ed]; rfl
          rcases zp_cof_W hV hF hi with z | ⟨v, hv, z⟩
          · exact absurd z c
          · have ez : zi_n (zp_cof (zy_P s) i) = v := by rw [z]; exact (zi_Ai hv (by omega)).2
            obtain ⟨N2, e2, f2, h2⟩ := zo_seti (q := (0, zp_t (zy_P s) i, v, 0, 0)) hPN g3 hVi hi
            rw [edd, Option.bind_some, z, zc_set ht8, Option.bind_some, e2, Option.bind_some]
            refine k (_, N2) ⟨?_, zf_tr g2 f2, by rw [zp_fold_t e, ez]; exact h2⟩
            show x + 1 = _
            rw [fb_ct_succ, e, g1, nI_1]; rfl
      by_cases c1 : zp_k (zy_P s) i = 1
      · rw [if_pos (show nI (zp_k (zy_P s) i) = (1 : Int32) by rw [c1]; rfl)]
        exact yes (Or.inl c1)
      · rw [if_neg (show ¬ nI (zp_k (zy_P s) i) = (1 : Int32) from fun z => c1 ((nI_eq (b := 1) (by omega) (by omega)).mp z))]
        by_cases c2 : zp_k (zy_P s) i = 2
        · rw [if_pos (show nI (zp_k (zy_P s) i) = (2 : Int32) by rw [c2]; rfl)]
          exact yes (Or.inr c2)
        · rw [if_neg (show ¬ nI (zp_k (zy_P s) i) = (2 : Int32) from fun z => c2 ((nI_eq (b := 2) (by omega) (by omega)).mp z))]
          exact no (zp_bF (fun z => by rcases z.1 with w | w <;> contradiction))
    · intro fu σ ⟨g1, g2, g3⟩
      obtain ⟨x, N⟩ := σ
      simp only at g1 g2 g3
      have hl := zl_F g2
      have kD := C1.2.1.keepL hl
      have eN : (mm_k N 1).1 = 10 := by rw [kD.1]
      have hPN := C1.2.2.1.1.keep g2
      have eins : gf_I N 45 7 1 = some (nI (zp_ni (zy_P s))) := zr_instr (P := zp_fold (zy_P s) (zp_ni (zy_P s))) hPN g3
      show zh_H (lb_D_foldConstants_20 k0 1 35 (lf_D_foldConstants_20 k0 1 35 fu) x (nI (zp_ni (zy_P s))) N) _
      unfold lb_D_foldConstants_20
      rw [zg_R eN, Option.bind_some, kD.2.1, eins, Option.bind_some, if_pos (nI_le (Nat.le_refl _) (by omega)), g1]
      exact hk N g2 g3
  suffices goal : zh_H (lf_D_foldConstants_20 (fun (x16 : Int32) (M5 : mm_T) => (ff_D_forgetAnalyses 1 M5).bind fun M6 => some (x16, M6)) 1 35 fu_L (0 : Int32) (0 : Int32) M1) (fun y => ∃ M', y = ((zv_foldConstants s).1, M') ∧ zy_Y M1 M' zy_A 0 0 ∧ zy_C M' (zv_foldConstants s).2) by
    obtain ⟨y, e, M', rfl, y2, q⟩ := goal
    exact ⟨M', e, zy_Ywk (zy_Ytr y01 y2) (by omega) (by omega) (fun a _ z => z), q⟩
  refine aux _ _ (fun N f g => ?_)
  obtain ⟨⟨M3, e3, y3, C3⟩, -⟩ := zy_act C1 f g (zp_fold_V hV hF _ (Nat.le_refl _))
  show zh_H ((ff_D_forgetAnalyses 1 N).bind _) _
  rw [e3, Option.bind_some]
  exact zh_some ⟨M3, rfl, y3, C3⟩
end ZYB3
