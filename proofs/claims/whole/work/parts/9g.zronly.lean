/-! ===== answers on an operand's only definition, both sides ===== -/
noncomputable def zp_oc (P : zp_T) (v i d : Nat) : Bool := zp_b (zp_df P d = some v ∧ zp_RD P d i)
noncomputable def zp_only (P : zp_T) (v i : Nat) : Int32 := if zp_b (zp_RI P v i) = true then -1 else if fb_ct (zp_oc P v i) (zp_ni P) = 1 then nI (fa_first (zp_oc P v i) (zp_ni P)) else -1
def zp_opI (P : zp_T) (i : Nat) (k : Int32) : Option Nat := if k < 0 then none else zp_op P i (zi_n k)
noncomputable def zv_onlyDefinition (P : zp_T) (a k : Int32) : Nat × Int32 := if zi_A (zp_ni P) a then (match zp_opI P (zi_n a) k with
  | none => (2, 0)
  | some v => (0, zp_only P v (zi_n a))) else (1, 0)
/-- the one of a count of one -/
theorem zs_one {p : Nat → Bool} {n d : Nat} (hc : fb_ct p n = 1) (hd : d < n) (hp : p d = true) : fa_first p n = d := by
  refine fa_first_eq hd hp (fun e he => ?_)
  cases q : p e with
  | false => rfl
  | true =>
    have h1 : fb_ct p e + 1 ≤ fb_ct p d := by
      have := fb_ct_mono p (show e + 1 ≤ d by omega)
      rw [fb_ct_succ, q] at this
      exact this
    have h2 : fb_ct p d + 1 ≤ fb_ct p n := by
      have := fb_ct_mono p (show d + 1 ≤ n by omega)
      rw [fb_ct_succ, hp] at this
      exact this
    omega
section ZCG
variable {M : mm_T} {P : zp_T}
theorem zr_operandNeg {M : mm_T} {t : Nat} (hP : zo_P M t) (hH : zo_H M t P) (hV : zp_V P) {i : Nat} (hi : i < zp_ni P) {k : Int32} (hk : k < 0) : ff_P_operandAt t (nI i) k M = some (-1) := by
  have n0 : ¬ k = 0 := fun q => by rw [q] at hk; exact absurd hk (by decide)
  have n1 : ¬ k = 1 := fun q => by rw [q] at hk; exact absurd hk (by decide)
  unfold ff_P_operandAt
  rw [zq_gd (by rw [hP.1]), zg_R (by rw [hP.1]), Option.bind_some, hP.2.1.1, zr_atW hP hH hV hi, Option.bind_some, zq_jp, if_neg n0, if_neg n1]
theorem zr_operandI {M : mm_T} {t : Nat} (hP : zo_P M t) (hH : zo_H M t P) (hV : zp_V P) {i : Nat} (hi : i < zp_ni P) (k : Int32) : ff_P_operandAt t (nI i) k M = some (zo_N (zp_opI P i k)) := by
  unfold zp_opI
  by_cases c : k < 0
  · rw [if_pos c, zr_operandNeg hP hH hV hi c]
    rfl
  · rw [if_neg c]
    obtain ⟨m, hm, e⟩ := zi_lt0 c
    have em : zi_n k = m := by
      unfold zi_n
      rw [e, nI_toInt hm, Int.toNat_natCast]
    rw [em, e, zr_operandAt hP hH hV hi hm]
theorem zd_only (q : zc_Q M P) (zd : zd_R M P) {i v : Nat} (hi : i < zp_ni P) (hv : v < 8) : ff_R_onlyDefinitionAt 24 (nI i) (nI v) M = some (zp_only P v i) := by
  have hV := q.2.1.2.2
  have hni := hV.2.2.1
  have e24 : (mm_k M 24).1 = 8 := by rw [q.2.2.1.2.1.1]
  have bits : ∀ d, d < 64 → bl (mm_J M 25 i &&& mm_J M 27 v) d = zp_oc P v i d := by
    intro d hd
    refine zp_b_eq ?_
    rw [zl_and, zd.2.2 v hv d hd, Bool.and_eq_true, Bool.and_eq_true, decide_eq_true_eq, decide_eq_true_eq, zd.1 i (by omega) d hd]
    exact ⟨fun z => ⟨z.2.2, z.1⟩, fun z => ⟨z.2, z.2.1, z.1⟩⟩
  have ocn : ∀ d, zp_ni P ≤ d → zp_oc P v i d = false := fun d hd => zp_bF (fun z => by have := z.2.1; omega)
  have ct : fb_ct (bl (mm_J M 25 i &&& mm_J M 27 v)) 64 = fb_ct (zp_oc P v i) (zp_ni P) := by
    rw [fb_ct_cong bits]
    exact zs_cut (by omega) ocn
  unfold ff_R_onlyDefinitionAt ff_R_definitionsAt_b zp_only
  simp only [zq_gd e24, zg_R e24, Option.bind_some, q.2.2.1.2.1.2.1.1, q.2.2.1.2.1.2.1.2.1, q.2.2.1.2.1.2.1.2.2]
  rw [zd_atL q.2.2.1.2.1.2.2.1 (show i < 52 by omega) (by omega), Option.bind_some, zd_atL q.2.2.1.2.1.2.2.2.2 hv (by omega), Option.bind_some, Option.bind_some, zd_at q.2.2.1.2.1.2.2.2.1 (show i < 52 by omega) (by omega), Option.bind_some, zb_hasBit (by omega), Option.bind_some, zp_b_eq (zd.2.1 i (by omega) v (by omega))]
  cases eR : zp_b (zp_RI P v i) with
  | true =>
    rw [if_neg (by decide), if_pos rfl]
  | false =>
    rw [if_pos (by decide), if_neg (by decide), zq_J, Option.bind_some, ct]
    have le : fb_ct (zp_oc P v i) (zp_ni P) ≤ zp_ni P := fb_ct_le _ _
    by_cases c1 : fb_ct (zp_oc P v i) (zp_ni P) = 1
    · rw [if_pos (show nI (fb_ct (zp_oc P v i) (zp_ni P)) = (1 : Int32) by rw [c1]; rfl), if_pos c1]
      refine zh_is (zh_up (F := fun fu j (_ : Unit) => lf_R_onlyDefinitionAt_36 (mm_J M 25 i &&& mm_J M 27 v) M fu j) (Q := fun y => y = nI (fa_first (zp_oc P v i) (zp_ni P))) 40 (fun j _ => ∀ e, e < j → zp_oc P v i e = false) ?_ ?_ fu_L 0 () (Nat.zero_le _) (by rw [zs_fuel]; omega) (fun e he => absurd he (Nat.not_lt_zero _)))
      · intro fu j _ hj g k
        show zh_H (lb_R_onlyDefinitionAt_36 (mm_J M 25 i &&& mm_J M 27 v) M (lf_R_onlyDefinitionAt_36 (mm_J M 25 i &&& mm_J M 27 v) M fu) (nI j)) _
        unfold lb_R_onlyDefinitionAt_36
        rw [if_neg (show ¬ (40 : Int32) ≤ nI j from nI_ge (b := 40) hj (by omega)), zl_hasBit (by omega), Option.bind_some, bits j (by omega)]
        cases eo : zp_oc P v i j with
        | true =>
          rw [if_neg (by decide)]
          refine zh_some ?_
          have hj2 : j < zp_ni P := Nat.lt_of_not_le (fun q => by rw [ocn j q] at eo; cases eo)
          rw [zs_one c1 hj2 eo]
        | false =>
          rw [if_pos (by decide), Option.bind_some, nI_1]
          refine k () (fun e he => ?_)
          rcases Nat.lt_or_ge e j with z | z
          · exact g e z
          · rw [show e = j by omega]; exact eo
      · intro fu _ g
        exfalso
        have : fb_ct (zp_oc P v i) (zp_ni P) = 0 := fb_ct_zero.mpr (fun e he => g e (by omega))
        omega
    · rw [if_neg (show ¬ nI (fb_ct (zp_oc P v i) (zp_ni P)) = (1 : Int32) from fun z => c1 ((nI_eq (b := 1) (by omega) (by omega)).mp z)), if_neg c1]
theorem zc_onlyDefinition (h : zc_Q M P) (a k : Int32) : zc_O (ff_D_onlyDefinition 1 a k M) M P (zr_c ["java/lang/IndexOutOfBoundsException", "java/util/NoSuchElementException"] (zv_onlyDefinition P a k)) := by
  have hV := h.2.1.2.2
  unfold ff_D_onlyDefinition zv_onlyDefinition
  rw [zq_gd (zc_e1 h)]
  refine zc_rq h (zc_reqI h a) rfl (fun c => ?_)
  obtain ⟨hb, ea⟩ := zi_An c
  generalize zi_n a = i at hb ea
  subst ea
  rw [zg_R (zc_e1 h), Option.bind_some, h.1.2.1, zr_operandI h.2.1.1 h.2.1.2.1 hV hb k, Option.bind_some]
  cases e : zp_opI P i k with
  | none =>
    rw [if_pos (show zo_N none = -1 from rfl)]
    exact zc_thr h rfl
  | some v =>
    have hv : v < 8 := by
      unfold zp_opI at e
      split at e
      · cases e
      · exact zp_op_lt hV hb e
    rw [if_neg (show ¬ zo_N (some v) = -1 from zi_n1 (by omega))]
    obtain ⟨M', e2, f, q, zd⟩ := zc_reaching h
    unfold bd_2
    rw [e2, Option.bind_some]
    show zc_O ((ff_R_onlyDefinitionAt 24 (nI i) (nI v) M').bind _) M P _
    rw [zd_only q zd hb hv, Option.bind_some]
    exact zc_ret (zd_zc f) q
end ZCG
section ZTG
variable {M : mm_T} {o : Nat} {P : zp_T}
theorem zt_onlyAt (h : zt_S M o P) {i v : Nat} (hi : i < zp_ni P) (hv : v < 8) : zh_H (bd_2 (ff_M_isFirstAtPlace 52 (nI (zp_bk P i)) (nI i) (nI v) M) fun x7 M3 => (ff_M_one x7 M3).bind fun x8 => lf_M_onlyDefinition_98 (fun (x16 : Int32) (x17 : Int32) (M6 : mm_T) => if x17 = (1 : Int32) then (some (x16, M6)) else (some ((-1 : Int32), M6))) 52 (nI i) (nI v) (nI (zp_bk P i)) fu_L (-1 : Int32) x8 (0 : Int32) M3) (fun y => ∃ N, y = (zp_only P v i, N) ∧ zf_F M N zt_A) := by
  have hV := h.2.2.2.2
  have hni := hV.2.2.1
  have hbl := zp_bk_lt hV hi
  have hlo := zp_bk_lo hV hi
  have hhi := zp_bk_hi hV hi
  have epl : zp_pl P (zp_bk P i) i = i := by unfold zp_pl; rw [if_pos hhi]
  obtain ⟨r, M3, e3, f3, hr⟩ := zt_isFirstAtPlace h hbl hlo (by omega) hv
  rw [epl] at hr
  refine zh_at2 e3 ?_
  have hS3 : zt_S M3 o P := h.keepA f3 (fun a h => h)
  rw [zt_one, Option.bind_some]
  refine zh_up (F := fun fu e (s : Int32 × Int32 × mm_T) => lf_M_onlyDefinition_98 _ 52 (nI i) (nI v) (nI (zp_bk P i)) fu s.1 s.2.1 e s.2.2) (zp_ni P) (fun e s => s.2.1 = nI ((if r then 1 else 0) + fb_ct (zp_oc P v i) e) ∧ (fb_ct (zp_oc P v i) e = 0 → s.1 = -1) ∧ (0 < fb_ct (zp_oc P v i) e → ∃ d, d < e ∧ s.1 = nI d ∧ zp_oc P v i d = true) ∧ zf_F M s.2.2 zt_A) ?_ ?_ fu_L 0 (-1, nI (if r then 1 else 0), M3) (Nat.zero_le _) (by rw [zs_fuel]; omega) ⟨rfl, fun _ => rfl, fun z => absurd z (Nat.lt_irrefl _), f3⟩
  · intro fu e s he ⟨g1, g2, g3, g4⟩ k
    obtain ⟨x, y, N⟩ := s
    simp only at g1 g2 g3 g4
    have hS : zt_S N o P := h.keepA g4 (fun a h => h)
    show zh_H (lb_M_onlyDefinition_98 _ 52 (nI i) (nI v) (nI (zp_bk P i)) (lf_M_onlyDefinition_98 _ 52 (nI i) (nI v) (nI (zp_bk P i)) fu) x y (nI e) N) _
    unfold lb_M_onlyDefinition_98
    rw [zt_ni hS, Option.bind_some, if_neg (nI_ge he (by omega)), zt_defines hS he (by omega), Option.bind_some]
    simp only [zq_jp, Option.bind_some, nI_1]
    have stay : ∀ N2, zf_F M N2 zt_A → ¬ (zp_df P e = some v ∧ zp_RD P e i) → zh_H (lf_M_onlyDefinition_98 (fun (x16 : Int32) (x17 : Int32) (M6 : mm_T) => if x17 = (1 : Int32) then (some (x16, M6)) else (some ((-1 : Int32), M6))) 52 (nI i) (nI v) (nI (zp_bk P i)) fu x y (nI (e + 1)) N2) (fun y => ∃ N, y = (zp_only P v i, N) ∧ zf_F M N zt_A) := by
      intro N2 f2 hn
      have eo : zp_oc P v i e = false := zp_bF hn
      have ec : fb_ct (zp_oc P v i) (e + 1) = fb_ct (zp_oc P v i) e := by rw [fb_ct_succ, eo]; rfl
      refine k (x, y, N2) ⟨by rw [ec]; exact g1, by rw [ec]; exact g2, by rw [ec]; exact fun z => (g3 z).imp (fun d q => ⟨by have := q.1; omega, q.2⟩), f2⟩
    by_cases cd : zp_df P e = some v
    · rw [decide_eq_true cd, if_neg (by decide)]
      refine zt_Qbd (zt_reachesPlace hS he hbl hlo (by omega)) (fun N2 f2 q2 => ?_) (fun N2 f2 q2 => ?_)
      · rw [epl] at q2
        rw [if_neg (by decide)]
        have eo : zp_oc P v i e = true := zp_b_iff.mpr ⟨cd, q2⟩
        have ec : fb_ct (zp_oc P v i) (e + 1) = fb_ct (zp_oc P v i) e + 1 := by rw [fb_ct_succ, eo]; rfl
        refine k (nI e, y + 1, N2) ⟨?_, fun z => by rw [ec] at z; omega, fun _ => ⟨e, by omega, rfl, eo⟩, zf_tr g4 f2⟩
        show y + 1 = _
        rw [g1, nI_1, ec, Nat.add_assoc]
      · rw [epl] at q2
        rw [if_pos rfl]
        exact stay N2 (zf_tr g4 f2) (fun z => q2 z.2)
    · rw [decide_eq_false cd, if_pos (by decide)]
      exact stay N g4 (fun z => cd z.1)
  · intro fu s ⟨g1, g2, g3, g4⟩
    obtain ⟨x, y, N⟩ := s
    simp only at g1 g2 g3 g4
    have hS : zt_S N o P := h.keepA g4 (fun a h => h)
    have le : fb_ct (zp_oc P v i) (zp_ni P) ≤ zp_ni P := fb_ct_le _ _
    show zh_H (lb_M_onlyDefinition_98 _ 52 (nI i) (nI v) (nI (zp_bk P i)) (lf_M_onlyDefinition_98 _ 52 (nI i) (nI v) (nI (zp_bk P i)) fu) x y (nI (zp_ni P)) N) _
    unfold lb_M_onlyDefinition_98
    rw [zt_ni hS, Option.bind_some, if_pos (nI_le (Nat.le_refl _) (by omega)), g1]
    unfold zp_only
    rw [← zp_b_eq hr]
    cases r with
    | true =>
      have e1 : (if (true = true) then (1 : Nat) else 0) = 1 := if_pos rfl
      rw [e1, if_pos rfl]
      dsimp only
      by_cases z : fb_ct (zp_oc P v i) (zp_ni P) = 0
      · rw [z, g2 z, if_pos (show nI (1 + 0) = (1 : Int32) from rfl)]
        exact zh_some ⟨N, rfl, g4⟩
      · rw [if_neg (show ¬ nI (1 + fb_ct (zp_oc P v i) (zp_ni P)) = (1 : Int32) from fun w => by
          have := (nI_eq (b := 1) (by omega) (by omega)).mp w
          omega)]
        exact zh_some ⟨N, rfl, g4⟩
    | false =>
      have e0 : (if (false = true) then (1 : Nat) else 0) = 0 := if_neg (by decide)
      rw [e0, if_neg (show ¬ (false = true) by decide), Nat.zero_add]
      dsimp only
      by_cases z : fb_ct (zp_oc P v i) (zp_ni P) = 1
      · obtain ⟨d, hd, ex, eo⟩ := g3 (by omega)
        rw [zs_one z hd eo, z, if_pos (show nI 1 = (1 : Int32) from rfl), if_pos rfl, ex]
        exact zh_some ⟨N, rfl, g4⟩
      · rw [if_neg (show ¬ nI (fb_ct (zp_oc P v i) (zp_ni P)) = (1 : Int32) from fun w => by
          have := (nI_eq (b := 1) (by omega) (by omega)).mp w
          omega), if_neg z]
        exact zh_some ⟨N, rfl, g4⟩
theorem zt_onlyDefinition (h : zt_S M o P) (a k : Int32) : zt_O (ff_M_onlyDefinition 52 a k M) M (zv_onlyDefinition P a k) := by
  have hV := h.2.2.2.2
  have hni := hV.2.2.1
  unfold ff_M_onlyDefinition zv_onlyDefinition
  rw [zq_gd (zt_e52 h)]
  refine zt_opI h (fun c h1 => ?_)
  obtain ⟨hi, ea⟩ := zi_An c
  generalize zi_n a = i at hi ea
  subst ea
  have hk3 : zp_k P i ≤ 3 := (hV.2.2.2.2.2.2.2 i hi).1
  simp only [zt_k h1 hi, Option.bind_some, zq_jp, zp_I (zt_e52 h1), zm_over]
  have main : ∀ n : Nat, n ≤ 2 → (∀ s, zp_op P i s = if s < n then (if s = 0 then some (zp_l P i) else some (zp_r P i)) else none) → zt_O (if k < 0 then some (0, mm_sI M 52 4 2) else if k < nI n then (if k = 0 then (ff_M_it 52 (nI i) 2 (mm_sI M 52 4 0)).bind fun x5 => (ff_M_blockAt 52 (nI i) (mm_sI M 52 4 0)).bind fun x6 => bd_2 (ff_M_isFirstAtPlace 52 x6 (nI i) x5 (mm_sI M 52 4 0)) fun x7 M3 => (ff_M_one x7 M3).bind fun x8 => lf_M_onlyDefinition_98 (fun (x16 : Int32) (x17 : Int32) (M6 : mm_T) => if x17 = (1 : Int32) then (some (x16, M6)) else (some ((-1 : Int32), M6))) 52 (nI i) x5 x6 fu_L (-1 : Int32) x8 (0 : Int32) M3 else (ff_M_it 52 (nI i) 4 (mm_sI M 52 4 0)).bind fun x5 => (ff_M_blockAt 52 (nI i) (mm_sI M 52 4 0)).bind fun x6 => bd_2 (ff_M_isFirstAtPlace 52 x6 (nI i) x5 (mm_sI M 52 4 0)) fun x7 M3 => (ff_M_one x7 M3).bind fun x8 => lf_M_onlyDefinition_98 (fun (x16 : Int32) (x17 : Int32) (M6 : mm_T) => if x17 = (1 : Int32) then (some (x16, M6)) else (some ((-1 : Int32), M6))) 52 (nI i) x5 x6 fu_L (-1 : Int32) x8 (0 : Int32) M3) else some (0, mm_sI M 52 4 2)) M (match zp_opI P i k with
      | none => (2, 0)
      | some v => (0, zp_only P v i)) := by
    intro n hn hop
    unfold zp_opI
    by_cases c0 : k < 0
    · rw [if_pos c0, if_pos c0]
      exact zt_thr (k := 2) (by omega) (zf_rfl _ _)
    · rw [if_neg c0, if_neg c0]
      obtain ⟨m, hm, e⟩ := zi_lt0 c0
      have em : zi_n k = m := by
        unfold zi_n
        rw [e, nI_toInt hm, Int.toNat_natCast]
      rw [em, hop m]
      by_cases cm : m < n
      · rw [if_pos cm, if_pos (show k < nI n by rw [e]; exact (nI_ltI hm (by omega)).mpr cm)]
        by_cases c1 : m = 0
        · have hv : zp_l P i < 8 := zp_op_lt hV (k := m) hi (by rw [hop m, if_pos cm, if_pos c1])
          rw [if_pos (show k = 0 by rw [e, c1]; rfl), if_pos c1, zt_l h1 hi, Option.bind_some, zt_blockAt h1 hi, Option.bind_some]
          obtain ⟨y, ey, N, rfl, f⟩ := zt_onlyAt h1 hi hv
          rw [ey]
          exact zt_retF f
        · have hv : zp_r P i < 8 := zp_op_lt hV (k := m) hi (by rw [hop m, if_pos cm, if_neg c1])
          rw [if_neg (show ¬ k = 0 from fun z => c1 ((nI_eq (b := 0) hm (by omega)).mp (by rw [← e, z]; rfl))), if_neg c1, zt_r h1 hi, Option.bind_some, zt_blockAt h1 hi, Option.bind_some]
          obtain ⟨y, ey, N, rfl, f⟩ := zt_onlyAt h1 hi hv
          rw [ey]
          exact zt_retF f
      · rw [if_neg cm, if_neg (show ¬ k < nI n from fun z => cm ((nI_ltI hm (by omega)).mp (by rw [← e]; exact z)))]
        exact zt_thr (k := 2) (by omega) (zf_rfl _ _)
  have hop : ∀ s, zp_op P i s = if s = 0 then (if zp_k P i = 0 then none else some (zp_l P i)) else if s = 1 then (if zp_k P i = 2 then some (zp_r P i) else none) else none := fun s => rfl
  by_cases c2 : zp_k P i = 2
  · rw [if_pos (show nI (zp_k P i) = (2 : Int32) by rw [c2]; rfl)]
    refine main 2 (by omega) (fun s => ?_)
    rw [hop s, c2]
    by_cases s0 : s = 0
    · simp [s0]
    · by_cases s1 : s = 1
      · simp [s1]
      · simp [s0, s1, show ¬ s < 2 by omega]
  · rw [if_neg (show ¬ nI (zp_k P i) = (2 : Int32) from fun z => c2 ((nI_eq (b := 2) (by omega) (by omega)).mp z))]
    by_cases c0 : zp_k P i = 0
    · rw [if_pos (show nI (zp_k P i) = 0 by rw [c0]; rfl)]
      refine main 0 (by omega) (fun s => ?_)
      rw [hop s, c0]
      by_cases s0 : s = 0
      · simp [s0]
      · by_cases s1 : s = 1
        · simp [s1]
        · simp [s0, s1]
    · rw [if_neg (nI_ne0 (by omega) (by omega))]
      refine main 1 (by omega) (fun s => ?_)
      rw [hop s]
      by_cases s0 : s = 0
      · simp [s0, c0]
      · by_cases s1 : s = 1
        · simp [s1, c2]
        · simp [s0, s1]
end ZTG
