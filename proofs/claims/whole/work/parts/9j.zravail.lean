/-! ===== the reference's interference; answers on expressions, both sides ===== -/
section ZTJ
variable {M : mm_T} {o : Nat} {P : zp_T}
theorem zt_hinders (h : zt_S M o P) {v w : Nat} (hv : v < 8) (hw : w < 8) : zt_Q (ff_M_hinders 52 (nI v) (nI w) M) M (zp_clash P v w) := by
  have hV := h.2.2.2.2
  have hni := hV.2.2.1
  refine zt_Qh ?_
  unfold ff_M_hinders
  rw [zq_gd (zt_e52 h)]
  refine zh_up (F := fun fu i N => lf_M_hinders_2 52 (nI v) (nI w) fu i N) (zp_ni P) (fun i N => zf_F M N zt_A ∧ ∀ e, e < i → ¬ (zp_df P e = some v ∧ ¬ (zp_k P e = 1 ∧ zp_l P e = w) ∧ zp_LV P w (zp_pl P (zp_bk P e) (e + 1)))) ?_ ?_ fu_L 0 M (Nat.zero_le _) (by rw [zs_fuel]; omega) ⟨zf_rfl _ _, fun e he => absurd he (Nat.not_lt_zero _)⟩
  · intro fu i N hi ⟨g1, g2⟩ k
    have hS : zt_S N o P := h.keepA g1 (fun a h => h)
    have hk3 : zp_k P i ≤ 3 := (hV.2.2.2.2.2.2.2 i hi).1
    have hl : zp_l P i < 1000 := (hV.2.2.2.2.2.2.2 i hi).2.2.1
    have hbl := zp_bk_lt hV hi
    have hlo := zp_bk_lo hV hi
    have hhi := zp_bk_hi hV hi
    show zh_H (lb_M_hinders_2 52 (nI v) (nI w) (lf_M_hinders_2 52 (nI v) (nI w) fu) (nI i) N) _
    unfold lb_M_hinders_2
    rw [zt_ni hS, Option.bind_some, if_neg (nI_ge hi (by omega)), zt_defines hS hi (by omega), Option.bind_some]
    simp only [zq_jp, Option.bind_some, nI_1]
    have next : ∀ N2, zf_F N N2 zt_A → ¬ (zp_df P i = some v ∧ ¬ (zp_k P i = 1 ∧ zp_l P i = w) ∧ zp_LV P w (zp_pl P (zp_bk P i) (i + 1))) → zh_H (lf_M_hinders_2 52 (nI v) (nI w) fu (nI (i + 1)) N2) (fun y => ∃ (b : Bool) (M' : mm_T), y = (zb_B b, M') ∧ zf_F M M' zt_A ∧ (b = true ↔ zp_clash P v w)) := fun N2 f2 z => k N2 ⟨zf_tr g1 f2, fun e he => by
      rcases Nat.lt_or_ge e i with z2 | z2
      · exact g2 e z2
      · rw [show e = i by omega]; exact z⟩
    by_cases cd : zp_df P i = some v
    · rw [decide_eq_true cd, if_neg (by decide), zt_k hS hi, Option.bind_some]
      have plain : ¬ (zp_k P i = 1 ∧ zp_l P i = w) → zh_H ((ff_M_blockAt 52 (nI i) N).bind fun x5 => bd_2 (ff_M_isLiveAt 52 x5 (nI (i + 1)) (nI w) N) fun x6 M2 => if x6 = 0 then lf_M_hinders_2 52 (nI v) (nI w) fu (nI (i + 1)) M2 else some (1, M2)) (fun y => ∃ (b : Bool) (M' : mm_T), y = (zb_B b, M') ∧ zf_F M M' zt_A ∧ (b = true ↔ zp_clash P v w)) := by
        intro z
        rw [zt_blockAt hS hi, Option.bind_some]
        refine zt_Qbd (zt_liveAt1 hS hbl (k := i + 1) (by omega) (by omega) hw) (fun N2 f2 q2 => ?_) (fun N2 f2 q2 => ?_)
        · rw [if_neg (by decide)]
          exact zt_Qt (zf_tr g1 f2) ⟨i, hi, cd, z, q2⟩
        · rw [if_pos rfl]
          exact next N2 f2 (fun r => q2 r.2.2)
      by_cases c1 : zp_k P i = 1
      · rw [if_pos (show nI (zp_k P i) = (1 : Int32) by rw [c1]; rfl), zt_l hS hi, Option.bind_some]
        by_cases c2 : zp_l P i = w
        · rw [if_pos (show nI (zp_l P i) = nI w by rw [c2])]
          exact next N (zf_rfl _ _) (fun r => r.2.1 ⟨c1, c2⟩)
        · rw [if_neg (show ¬ nI (zp_l P i) = nI w from fun z => c2 ((nI_eq (by omega) (by omega)).mp z))]
          exact plain (fun z => c2 z.2)
      · rw [if_neg (show ¬ nI (zp_k P i) = (1 : Int32) from fun z => c1 ((nI_eq (b := 1) (by omega) (by omega)).mp z))]
        exact plain (fun z => c1 z.1)
    · rw [decide_eq_false cd, if_pos (by decide)]
      exact next N (zf_rfl _ _) (fun r => cd r.1)
  · intro fu N ⟨g1, g2⟩
    have hS : zt_S N o P := h.keepA g1 (fun a h => h)
    show zh_H (lb_M_hinders_2 52 (nI v) (nI w) (lf_M_hinders_2 52 (nI v) (nI w) fu) (nI (zp_ni P)) N) _
    unfold lb_M_hinders_2
    rw [zt_ni hS, Option.bind_some, if_pos (nI_le (Nat.le_refl _) (by omega))]
    exact zt_Qf g1 (fun ⟨i, hi, z⟩ => g2 i hi z)
theorem zt_interfere (h : zt_S M o P) (a b : Int32) : zt_O (ff_M_interfere 52 a b M) M (zv_interfere P a b) := by
  unfold ff_M_interfere zv_interfere
  rw [zq_gd (zt_e52 h), zp_I (zt_e52 h), Option.bind_some, show (1 : Int32) = nI 1 from rfl]
  refine zt_opV2 (k := 1) h (by omega) (fun c => ?_)
  refine zt_opV2 (k := 1) h (by omega) (fun c2 => ?_)
  have h1 := h.thrown 0
  by_cases ab : a = b
  · rw [if_pos ab, if_pos ab]
    exact zt_retF (zf_rfl _ _)
  rw [if_neg ab, if_neg ab]
  obtain ⟨hv, ea⟩ := zi_An c
  obtain ⟨hw, eb⟩ := zi_An c2
  clear ab
  generalize zi_n a = v at hv ea
  generalize zi_n b = w at hw eb
  subst ea eb
  obtain ⟨d, N, e, f, g⟩ := zt_hinders h1 hv hw
  unfold bd_2
  rw [e, Option.bind_some]
  simp only [zq_jp]
  cases d with
  | true =>
    rw [if_neg (by decide), zp_b_iff.mpr (Or.inl (g.mp rfl))]
    exact zt_retF f
  | false =>
    rw [if_pos (by decide)]
    have h2 : zt_S N o P := h1.keepA f (fun a h => h)
    have n1 : ¬ zp_clash P v w := fun z => by have := g.mpr z; cases this
    obtain ⟨d2, N2, e2, f2, g2⟩ := zt_hinders h2 hw hv
    rw [e2, Option.bind_some]
    cases d2 with
    | true =>
      simp only [if_neg (show ¬ zb_B true = 0 by decide)]
      rw [zp_b_iff.mpr (Or.inr (g2.mp rfl))]
      exact zt_retF (zf_tr f f2)
    | false =>
      simp only [if_pos (show zb_B false = 0 by decide)]
      have n2 : ¬ zp_clash P w v := fun z => by have := g2.mpr z; cases this
      rw [zp_bF (fun z => z.elim n1 n2)]
      exact zt_retF (zf_tr f f2)
end ZTJ
/-! expressions -/
theorem zp_LK_all {P : zp_T} (hV : zp_V P) {n : Nat} (hno : ∀ i, ¬ zp_GN P i n) {p : Nat} (hp : zp_OP P p) : zp_LK P n p := by
  have along : ∀ b, b < zp_nb P → zp_LK P n (zp_fp P b) → ∀ j, zp_st P b + j ≤ zp_st P (b + 1) → zp_LK P n (zp_pl P b (zp_st P b + j)) := by
    intro b hb h0 j
    induction j with
    | zero => intro _; rw [Nat.add_zero, ← zp_fp_pl]; exact h0
    | succ j ih =>
      intro hj
      have epl : zp_pl P b (zp_st P b + j) = zp_st P b + j := by unfold zp_pl; rw [if_pos (by omega)]
      have := ih (by omega)
      rw [epl] at this
      exact zs_go this ⟨zp_sc_in hV hb (by omega) (by omega), hno _⟩
  have all : ∀ b, b < zp_nb P → zp_LK P n (zp_fp P b) → ∀ k, zp_st P b ≤ k → k ≤ zp_st P (b + 1) → zp_LK P n (zp_pl P b k) := by
    intro b hb h0 k h1 h2
    have := along b hb h0 (k - zp_st P b) (by omega)
    rw [show zp_st P b + (k - zp_st P b) = k by omega] at this
    exact this
  have blocks : ∀ b, zp_RB P b → zp_LK P n (zp_fp P b) := by
    intro b hb
    refine zs_ind (S := fun b => zp_LK P n (zp_fp P b)) (fun x hx => ?_) (fun x y hx ih e => ?_) hb
    · rw [hx]; exact zs_in (Or.inl rfl)
    · have hxl := zp_RB_lt hV hx
      have := all x hxl ih (zp_st P (x + 1)) (hV.2.2.2.2.1 x hxl) (Nat.le_refl _)
      have epl : zp_pl P x (zp_st P (x + 1)) = 40 + x := by unfold zp_pl; rw [if_neg (Nat.lt_irrefl _)]
      rw [epl] at this
      exact zs_go this ⟨zp_sc_out hV e, hno _⟩
  obtain ⟨a1, a2, a3, a4⟩ := zp_pt_all hV hp.1
  have := all _ a1 (blocks _ hp.2) _ a2 a3
  rw [a4] at this
  exact this
theorem zp_nm_nm {P : zp_T} {i : Nat} (hi : i < zp_ni P) (hk : zp_k P i = 2) : zp_nm P (zp_nm P i) = zp_nm P i := by
  obtain ⟨_, h2, h3⟩ := zp_nm_self hi hk
  have : zp_sx P (zp_nm P i) = zp_sx P i := by
    funext j
    unfold zp_sx
    rw [h3]
  show fa_first (zp_sx P (zp_nm P i)) (zp_ni P) = fa_first (zp_sx P i) (zp_ni P)
  rw [this]
def zp_isN (P : zp_T) (i : Nat) : Bool := decide (zp_k P i = 2) && decide (zp_nm P i = i)
theorem zp_AL_name {P : zp_T} (hV : zp_V P) {n p : Nat} (h : zp_AL P n p) : n < zp_ni P ∧ zp_isN P n = true := by
  have : ∃ i, zp_GN P i n := Classical.byContradiction fun q => h.2 (zp_LK_all hV (fun i z => q ⟨i, z⟩) h.1)
  obtain ⟨i, h1, h2, h3⟩ := this
  obtain ⟨n1, n2, _⟩ := zp_nm_self h1 h2
  have n4 := zp_nm_nm h1 h2
  rw [h3] at n1 n2 n4
  refine ⟨by omega, ?_⟩
  unfold zp_isN
  rw [decide_eq_true n2, decide_eq_true n4]
  rfl
def zv_expressionCount (P : zp_T) : Nat := fb_ct (zp_isN P) (zp_ni P)
noncomputable def zv_isRedundant (P : zp_T) (a : Int32) : Nat × Int32 := if zi_A (zp_ni P) a then (0, zb_B (zp_b (zp_RU P (zi_n a)))) else (1, 0)
noncomputable def zv_redundantCount (P : zp_T) : Nat := fb_ct (fun i => zp_b (zp_RU P i)) (zp_ni P)
noncomputable def zv_availableAt (P : zp_T) (a : Int32) : Nat × Int32 := if zi_A (zp_nb P) a then (0, nI (fb_ct (fun n => zp_b (zp_AL P n (zp_fp P (zi_n a)))) (zp_ni P))) else (1, 0)
section ZCJ
variable {M : mm_T} {P : zp_T}
theorem zv_e31 (q : zc_Q M P) : (mm_k M 31).1 = 0 := by rw [q.2.2.1.2.2.2.1.1]
theorem zv_count (q : zc_Q M P) (zd : zd_V M P) : ff_A_countNames 31 45 M = some (nI (zv_expressionCount P)) := by
  have hV := q.2.1.2.2
  have hni := hV.2.2.1
  unfold ff_A_countNames
  rw [zq_gd (zv_e31 q)]
  refine zh_is (zh_up (F := fun fu i (x : Int32) => lf_A_countNames_4 31 45 M fu x i) (Q := fun y => y = nI (zv_expressionCount P)) (zp_ni P) (fun i x => x = nI (fb_ct (zp_isN P) i)) ?_ ?_ fu_L 0 0 (Nat.zero_le _) (by rw [zs_fuel]; omega) rfl)
  · intro fu i x hi hx k
    show zh_H (lb_A_countNames_4 31 45 M (lf_A_countNames_4 31 45 M fu) x (nI i)) _
    unfold lb_A_countNames_4
    rw [zr_instr q.2.1.1 q.2.1.2.1, Option.bind_some, if_neg (nI_ge hi (by omega)), zg_R (zv_e31 q), Option.bind_some, q.2.2.1.2.2.2.1.2.1.1, zd_at q.2.2.1.2.2.2.1.2.2.1 (show i < 40 by omega) (by omega), Option.bind_some, zq_jp, hx, zd.1.1 i (by omega)]
    simp only [Option.bind_some, nI_1]
    cases e : zp_isN P i with
    | true =>
      have e' := e
      unfold zp_isN at e'
      rw [Bool.and_eq_true, decide_eq_true_eq, decide_eq_true_eq] at e'
      rw [if_pos (show (if i < zp_ni P ∧ zp_k P i = 2 then nI (zp_nm P i) else -1) = nI i by rw [if_pos ⟨hi, e'.1⟩, e'.2])]
      refine k _ ?_
      rw [fb_ct_succ, e]; rfl
    | false =>
      have ne : ¬ (if i < zp_ni P ∧ zp_k P i = 2 then nI (zp_nm P i) else -1) = nI i := by
        intro z
        by_cases c : zp_k P i = 2
        · rw [if_pos ⟨hi, c⟩] at z
          have := (nI_eq (by have := (zp_nm_self hi c).1; omega) (by omega)).mp z
          unfold zp_isN at e
          rw [decide_eq_true c, decide_eq_true this] at e
          cases e
        · rw [if_neg (fun q => c q.2)] at z
          exact zi_n1 (by omega) z.symm
      rw [if_neg ne, Int32.add_zero]
      refine k _ ?_
      rw [fb_ct_succ, e]; rfl
  · intro fu x hx
    show zh_H (lb_A_countNames_4 31 45 M (lf_A_countNames_4 31 45 M fu) x (nI (zp_ni P))) _
    unfold lb_A_countNames_4
    rw [zr_instr q.2.1.1 q.2.1.2.1, Option.bind_some, if_pos (nI_le (Nat.le_refl _) (by omega)), hx]
    exact zh_some rfl
theorem zc_expressionCount (h : zc_Q M P) : zc_I (ff_D_expressionCount 1 M) M P (nI (zv_expressionCount P)) := by
  unfold ff_D_expressionCount
  rw [zq_gd (zc_e1 h)]
  obtain ⟨M', e, f, q, zd⟩ := zc_available h
  unfold bd_2
  rw [e, Option.bind_some]
  show zc_I ((gf_R M' 1 10 0).bind _) M P _
  rw [zg_R (zc_e1 q), Option.bind_some, q.1.2.1]
  show zc_I ((ff_A_countNames 31 45 M').bind _) M P _
  rw [zv_count q zd, Option.bind_some]
  exact ⟨M', rfl, f, q⟩
theorem zv_redAt (q : zc_Q M P) (zd : zd_V M P) {i : Nat} (hi : i < zp_ni P) : ff_A_isRedundantAt 31 45 (nI i) M = some (zb_B (zp_b (zp_RU P i))) := by
  have hV := q.2.1.2.2
  have hni := hV.2.2.1
  have hk3 : zp_k P i ≤ 3 := (hV.2.2.2.2.2.2.2 i hi).1
  unfold ff_A_isRedundantAt
  rw [zq_gd (zv_e31 q), zr_kindAt q.2.1.1 q.2.1.2.1 hV (p := i) (Or.inl hi), Option.bind_some, if_pos (show i < 40 by omega)]
  by_cases c : zp_k P i = 2
  · have hnm := (zp_nm_self hi c).1
    rw [if_pos (show nI (zp_k P i) = (2 : Int32) by rw [c]; rfl)]
    simp only [zg_R (zv_e31 q), Option.bind_some, q.2.2.1.2.2.2.1.2.1.1, q.2.2.1.2.2.2.1.2.1.2.2]
    rw [zd_atL q.2.2.1.2.2.2.1.2.2.2.2 (show i < 52 by omega) (by omega), Option.bind_some, zd_at q.2.2.1.2.2.2.1.2.2.1 (show i < 40 by omega) (by omega), Option.bind_some, zd.1.1 i (by omega), if_pos ⟨hi, c⟩, zl_hasBit (by omega), Option.bind_some]
    have key := zd.2 i (by omega) (zp_nm P i) (by omega)
    cases eb : bl (mm_J M 34 i) (zp_nm P i) with
    | true =>
      rw [if_neg (by decide), zp_b_iff.mpr ⟨c, key.mp eb⟩]
      rfl
    | false =>
      rw [if_pos (by decide), zp_bF (fun z => by rw [key.mpr z.2] at eb; cases eb)]
      rfl
  · rw [if_neg (show ¬ nI (zp_k P i) = (2 : Int32) from fun z => c ((nI_eq (b := 2) (by omega) (by omega)).mp z)), zp_bF (fun z => c z.1)]
    rfl
theorem zc_isRedundant (h : zc_Q M P) (a : Int32) : zc_O (ff_D_isRedundant 1 a M) M P (zr_c ["java/lang/IndexOutOfBoundsException"] (zv_isRedundant P a)) := by
  unfold ff_D_isRedundant zv_isRedundant
  rw [zq_gd (zc_e1 h)]
  refine zc_rq h (zc_reqI h a) rfl (fun c => ?_)
  obtain ⟨hb, ea⟩ := zi_An c
  generalize zi_n a = i at hb ea
  subst ea
  obtain ⟨M', e, f, q, zd⟩ := zc_available h
  unfold bd_2
  rw [e, Option.bind_some]
  show zc_O ((gf_R M' 1 10 0).bind _) M P _
  rw [zg_R (zc_e1 q), Option.bind_some, q.1.2.1]
  show zc_O ((ff_A_isRedundantAt 31 45 (nI i) M').bind _) M P _
  rw [zv_redAt q zd hb, Option.bind_some, zb_Zok, Option.bind_some]
  exact zc_ret f q
theorem zv_countRed (q : zc_Q M P) (zd : zd_V M P) : ff_A_countRedundant 31 45 M = some (nI (zv_redundantCount P)) := by
  have hV := q.2.1.2.2
  have hni := hV.2.2.1
  unfold ff_A_countRedundant
  rw [zq_gd (zv_e31 q)]
  refine zh_is (zh_up (F := fun fu i (x : Int32) => lf_A_countRedundant_4 31 45 M fu x i) (Q := fun y => y = nI (zv_redundantCount P)) (zp_ni P) (fun i x => x = nI (fb_ct (fun i => zp_b (zp_RU P i)) i)) ?_ ?_ fu_L 0 0 (Nat.zero_le _) (by rw [zs_fuel]; omega) rfl)
  · intro fu i x hi hx k
    show zh_H (lb_A_countRedundant_4 31 45 M (lf_A_countRedundant_4 31 45 M fu) x (nI i)) _
    unfold lb_A_countRedundant_4
    rw [zr_instr q.2.1.1 q.2.1.2.1, Option.bind_some, if_neg (nI_ge hi (by omega)), zv_redAt q zd hi, Option.bind_some, zq_jp, hx]
    simp only [Option.bind_some, nI_1]
    cases e : zp_b (zp_RU P i) with
    | true =>
      rw [if_neg (by decide)]
      refine k _ ?_
      rw [fb_ct_succ, e]; rfl
    | false =>
      rw [if_pos (by decide), Int32.add_zero]
      refine k _ ?_
      rw [fb_ct_succ, e]; rfl
  · intro fu x hx
    show zh_H (lb_A_countRedundant_4 31 45 M (lf_A_countRedundant_4 31 45 M fu) x (nI (zp_ni P))) _
    unfold lb_A_countRedundant_4
    rw [zr_instr q.2.1.1 q.2.1.2.1, Option.bind_some, if_pos (nI_le (Nat.le_refl _) (by omega)), hx]
    exact zh_some rfl
theorem zc_redundantCount (h : zc_Q M P) : zc_I (ff_D_redundantCount 1 M) M P (nI (zv_redundantCount P)) := by
  unfold ff_D_redundantCount
  rw [zq_gd (zc_e1 h)]
  obtain ⟨M', e, f, q, zd⟩ := zc_available h
  unfold bd_2
  rw [e, Option.bind_some]
  show zc_I ((gf_R M' 1 10 0).bind _) M P _
  rw [zg_R (zc_e1 q), Option.bind_some, q.1.2.1]
  show zc_I ((ff_A_countRedundant 31 45 M').bind _) M P _
  rw [zv_countRed q zd, Option.bind_some]
  exact ⟨M', rfl, f, q⟩
theorem zc_availableAt (h : zc_Q M P) (a : Int32) : zc_O (ff_D_availableAt 1 a M) M P (zr_c ["java/lang/IndexOutOfBoundsException"] (zv_availableAt P a)) := by
  have hV := h.2.1.2.2
  have hni := hV.2.2.1
  unfold ff_D_availableAt zv_availableAt
  rw [zq_gd (zc_e1 h)]
  refine zc_rq h (zc_reqB h a) rfl (fun c => ?_)
  obtain ⟨hb, ea⟩ := zi_An c
  generalize zi_n a = b at hb ea
  subst ea
  obtain ⟨M', e, f, q, zd⟩ := zc_available h
  have h52 := zp_fp52 hV hb
  unfold bd_2
  rw [e, Option.bind_some]
  unfold ff_A_expressionsAt
  simp only [zg_R (zc_e1 q), Option.bind_some, q.1.2.1]
  rw [zr_firstPoint q.2.1.1 q.2.1.2.1 hV hb, Option.bind_some]
  simp only [zq_gd (zv_e31 q), zg_R (zv_e31 q), Option.bind_some, q.2.2.1.2.2.2.1.2.1.2.2]
  rw [zd_atL q.2.2.1.2.2.2.1.2.2.2.2 h52 (by omega), Option.bind_some, Option.bind_some, zq_J, Option.bind_some]
  have eq : fb_ct (bl (mm_J M' 34 (zp_fp P b))) 64 = fb_ct (fun n => zp_b (zp_AL P n (zp_fp P b))) (zp_ni P) := by
    rw [fb_ct_cong (q := fun n => zp_b (zp_AL P n (zp_fp P b))) (fun n hn => zp_b_eq (zd.2 _ h52 n hn))]
    exact zs_cut (by omega) (fun n hn => zp_bF (fun z => by have := (zp_AL_name hV z).1; omega))
  rw [eq]
  exact zc_ret f q
end ZCJ
