/-! ===== the reference: constants, what a block does ===== -/
def zb_K (N : mm_T) (b v : Nat) : Int32 := mm_I N 57 (8 * b + v)
theorem zb_rem {a : Nat} (ha : a < 2 ^ 31) : io_remG (nI a) 1000 = some (nI (a % 1000)) := by
  unfold io_remG io_rem
  have e : nI a - nI a / nI 1000 * nI 1000 = nI (a % 1000) := by
    have h1 : nI a / nI 1000 = nI (a / 1000) := by
      unfold nI
      exact (Int32.ofNat_div ha (by omega)).symm
    rw [h1, zi_mul, zi_sub (by omega)]
    congr 1
    omega
  rw [if_neg (by decide)]
  rw [show (1000 : Int32) = nI 1000 from rfl, e]
theorem zb_neg : ∀ k, k < 1000 → (0 - nI k) + 1000 = nI (1000 - k) := by decide +kernel
theorem zb_n2 {a : Nat} (ha : a < 1000) : nI a ≠ (-2 : Int32) := by
  intro h
  have h1 := nI_toInt (n := a) (by omega)
  rw [h] at h1
  have : (-2 : Int32).toInt = -2 := rfl
  omega
theorem zt_meets (x y : Int32) (M : mm_T) : ff_M_meets x y M = some (zc_meet x y) := by
  unfold ff_M_meets zc_meet
  simp only [zq_jp]
  by_cases x2 : x = -2
  · rw [if_pos x2]
    by_cases y2 : y = -2
    · rw [if_pos y2, x2, y2]
    · rw [if_neg y2, if_neg (show ¬ y = x by rw [x2]; exact y2), if_neg (show ¬ x = -1 by rw [x2]; decide), if_pos x2]
  · rw [if_neg x2]
    by_cases y2 : y = -2
    · rw [if_pos y2, if_pos y2]
    · rw [if_neg y2, if_neg y2]
      by_cases xy : x = y
      · rw [if_pos xy, if_pos xy.symm]
      · rw [if_neg xy, if_neg (fun q => xy q.symm)]
        by_cases x1 : x = -1
        · rw [if_pos x1, x1]
        · rw [if_neg x1, if_neg x2]
section ZTM
variable {M : mm_T} {o : Nat} {P : zp_T}
theorem zt_calc (h : zt_S M o P) {op : Nat} {x y : Int32} (ho : op ≤ 2) (hx : zc_W x) (hy : zc_W y) : ff_M_calculates 52 x (nI op) y M = some (zc_cal op x y) := by
  have cc : ∀ a b : Nat, a < 1000 → b < 1000 → ff_M_calculates 52 (nI a) (nI op) (nI b) M = some (zc_cal op (nI a) (nI b)) := by
    intro a b ha hb
    have e1 : zc_cal op (nI a) (nI b) = nI (zc_op op a b) := by
      unfold zc_cal
      have z1 : (0 : Int32) ≤ nI a := nI_pos' (by omega)
      have z2 : (0 : Int32) ≤ nI b := nI_pos' (by omega)
      rw [if_pos ⟨z1, z2⟩]
      have t : ∀ n : Nat, n < 1000 → (nI n).toNatClampNeg = n := by decide +kernel
      rw [t a ha, t b hb]
    unfold ff_M_calculates
    rw [zq_gd (zt_e52 h), e1]
    simp only [zq_jp]
    rw [if_neg (zb_n2 ha), if_neg (zb_n2 hb), if_neg (zi_n1 (by omega)), if_neg (zi_n1 (by omega))]
    unfold zc_op
    by_cases c0 : op = 0
    · rw [c0, if_pos nI_0, if_pos rfl, nI_add, zb_rem (by omega), Option.bind_some]
    · rw [if_neg (nI_ne0 (by omega) (by omega)), if_neg c0]
      by_cases c1 : op = 1
      · rw [c1, if_pos (show nI 1 = (1 : Int32) from rfl), if_pos rfl]
        have e : nI a - nI b + 1000 = nI (a + 1000 - b) := by
          by_cases c2 : b ≤ a
          · rw [zi_sub c2, show (1000 : Int32) = nI 1000 from rfl, nI_add]
            congr 1
            omega
          · have e2 : nI a - nI b = 0 - nI (b - a) := by
              have h1 : nI b = nI a + nI (b - a) := by rw [nI_add]; congr 1; omega
              rw [h1, ← Int32.sub_sub, Int32.sub_self]
            rw [e2, zb_neg _ (by omega)]
            congr 1
            omega
        rw [e, zb_rem (by omega), Option.bind_some]
      · have hab : a * b < 2 ^ 31 := by
          have := Nat.mul_le_mul (show a ≤ 999 by omega) (show b ≤ 999 by omega)
          omega
        rw [if_neg (show ¬ nI op = (1 : Int32) from fun h => c1 ((nI_eq (b := 1) (by omega) (by omega)).mp h)), if_neg c1, zi_mul, zb_rem hab, Option.bind_some]
  rcases hx with rfl | rfl | ⟨a, ha, rfl⟩
  · rcases hy with rfl | rfl | ⟨b, hb, rfl⟩
    · unfold ff_M_calculates zc_cal
      rw [zq_gd (zt_e52 h)]
      simp only [zq_jp]
      rfl
    · unfold ff_M_calculates zc_cal
      rw [zq_gd (zt_e52 h)]
      simp only [zq_jp]
      rfl
    · unfold ff_M_calculates zc_cal
      rw [zq_gd (zt_e52 h)]
      simp only [zq_jp]
      rw [if_pos trivial, if_neg (show ¬ (-2 : Int32) = -1 by decide), if_neg (zi_n1 (by omega)), if_neg (fun z => zc_n2 z.1), if_neg (fun z => z.elim zc_21 (zi_n1 (by omega)))]
  · rcases hy with rfl | rfl | ⟨b, hb, rfl⟩
    · unfold ff_M_calculates zc_cal
      rw [zq_gd (zt_e52 h)]
      simp only [zq_jp]
      rfl
    · unfold ff_M_calculates zc_cal
      rw [zq_gd (zt_e52 h)]
      simp only [zq_jp]
      rfl
    · unfold ff_M_calculates zc_cal
      rw [zq_gd (zt_e52 h)]
      simp only [zq_jp]
      rw [if_neg (show ¬ (-1 : Int32) = -2 by decide), if_neg (zb_n2 hb), if_pos trivial, if_neg (fun z => zc_n1 z.1), if_pos (Or.inl trivial)]
  · rcases hy with rfl | rfl | ⟨b, hb, rfl⟩
    · unfold ff_M_calculates zc_cal
      rw [zq_gd (zt_e52 h)]
      simp only [zq_jp]
      rw [if_neg (zb_n2 ha), if_pos trivial, if_neg (zi_n1 (by omega)), if_neg (show ¬ (-2 : Int32) = -1 by decide), if_neg (fun z => zc_n2 z.2), if_neg (fun z => z.elim (zi_n1 (by omega)) zc_21)]
    · unfold ff_M_calculates zc_cal
      rw [zq_gd (zt_e52 h)]
      simp only [zq_jp]
      rw [if_neg (zb_n2 ha), if_neg (show ¬ (-1 : Int32) = -2 by decide), if_neg (zi_n1 (by omega)), if_pos trivial, if_neg (fun z => zc_n1 z.2), if_pos (Or.inr trivial)]
    · exact cc a b ha hb
theorem zt_nowAt (h : zt_S M o P) {v : Nat} (hv : v < 8) : ar_I M 58 (nI v) = some (mm_I M 58 v) := by
  have k58 : mm_k M 58 = (20, 8) := by
    have := h.1
    unfold zt_R at this
    simp only [this]
  exact za_I k58 hv (by omega)
theorem zt_given (h : zt_S M o P) {i : Nat} (hi : i < zp_ni P) (hk : zp_k P i ≠ 3) (hW : ∀ v, v < 8 → zc_W (mm_I M 58 v)) : ff_M_given 52 (nI i) M = some (zc_res P (fun _ w => mm_I M 58 w) i) := by
  have hV := h.2.2.2.2
  have hq := hV.2.2.2.2.2.2.2 i hi
  have hk3 : zp_k P i ≤ 3 := hq.1
  unfold ff_M_given zc_res
  rw [zq_gd (zt_e52 h), zt_k h hi, Option.bind_some]
  by_cases c0 : zp_k P i = 0
  · rw [if_pos (show nI (zp_k P i) = 0 by rw [c0]; rfl), if_pos c0, zt_l h hi, Option.bind_some]
  · have hl : zp_l P i < 8 := hq.2.2.2.1 c0
    rw [if_neg (nI_ne0 (by omega) (by omega)), if_neg c0]
    by_cases c1 : zp_k P i = 1
    · rw [if_pos (show nI (zp_k P i) = (1 : Int32) by rw [c1]; rfl), if_pos c1, zg_R (zt_e52 h), Option.bind_some, h.1.2.1.2.2.2.2.2.1, zt_l h hi, Option.bind_some, zt_nowAt h hl, Option.bind_some]
    · have hr : zp_r P i < 8 := hq.2.2.2.2.2
      have hoo : zp_o P i ≤ 2 := hq.2.2.2.2.1
      rw [if_neg (show ¬ nI (zp_k P i) = (1 : Int32) from fun z => c1 ((nI_eq (b := 1) (by omega) (by omega)).mp z)), if_neg c1]
      simp only [zg_R (zt_e52 h), Option.bind_some, h.1.2.1.2.2.2.2.2.1, zt_l h hi, zt_nowAt h hl, zt_o h hi, zt_r h hi, zt_nowAt h hr, zt_calc h hoo (hW _ hl) (hW _ hr)]
theorem zt_comesTo (h : zt_S M o P) {b k : Nat} (hb : b < zp_nb P) (h1 : zp_st P b ≤ k) (h2 : k ≤ zp_st P (b + 1)) (hW : ∀ v, v < 8 → zc_W (zb_K M b v)) : ∃ M', ff_M_comesTo 52 (nI b) (nI k) M = some M' ∧ zf_F M M' (fun x => x = 58) ∧ ∀ v, v < 8 → mm_I M' 58 v = zb_st P (zb_K M) b (k - zp_st P b) v := by
  have hV := h.2.2.2.2
  have hnb := hV.2.1
  have hni := hV.2.2.1
  have hse := zp_st_le hV (b := b + 1) (by omega)
  have k57 : mm_k M 57 = (20, 96) := by
    have := h.1
    unfold zt_R at this
    simp only [this]
  have k58 : mm_k M 58 = (20, 8) := by
    have := h.1
    unfold zt_R at this
    simp only [this]
  suffices goal : zh_H (ff_M_comesTo 52 (nI b) (nI k) M) (fun M' => zf_F M M' (fun x => x = 58) ∧ ∀ v, v < 8 → mm_I M' 58 v = zb_st P (zb_K M) b (k - zp_st P b) v) from goal
  unfold ff_M_comesTo
  rw [zq_gd (zt_e52 h)]
  refine zh_up (F := fun fu i N => lf_M_comesTo_2 _ 52 (nI b) (nI k) fu i N) 8 (fun i N => zf_F M N (fun x => x = 58) ∧ ∀ v, v < i → mm_I N 58 v = zb_K M b v) ?_ ?_ fu_L 0 M (Nat.zero_le _) (by rw [zs_fuel]; omega) ⟨zf_rfl _ _, fun v hv => absurd hv (Nat.not_lt_zero _)⟩
  · intro fu i N hi ⟨g1, g2⟩ kk
    have hS : zt_S N o P := h.keepA g1 (fun a q => by unfold zt_A; omega)
    show zh_H (lb_M_comesTo_2 _ 52 (nI b) (nI k) (lf_M_comesTo_2 _ 52 (nI b) (nI k) fu) (nI i) N) _
    unfold lb_M_comesTo_2
    rw [if_neg (show ¬ (8 : Int32) ≤ nI i from nI_ge (b := 8) hi (by omega))]
    simp only [zg_R (zt_e52 hS), Option.bind_some, hS.1.2.1.2.2.2.2.2.1, hS.1.2.1.2.2.2.2.1]
    rw [show (8 : Int32) = nI 8 from rfl, zi_mul, nI_add, za_I (by rw [zf_k g1]; exact k57) (show 8 * b + i < 96 by omega) (by omega), Option.bind_some, zw_I (by rw [zf_k g1]; exact k58) hi (by omega), Option.bind_some, nI_1]
    refine kk _ ⟨zf_tr g1 (zf_I (A := fun x => x = 58) rfl _ _), fun v hv => ?_⟩
    rw [zm_II]
    by_cases c : v = i
    · rw [if_pos ⟨rfl, c⟩, c, zf_i g1 (by omega)]
      rfl
    · rw [if_neg (fun z => c z.2)]
      exact g2 v (by omega)
  · intro fu N ⟨g1, g2⟩
    have hS : zt_S N o P := h.keepA g1 (fun a q => by unfold zt_A; omega)
    show zh_H (lb_M_comesTo_2 _ 52 (nI b) (nI k) (lf_M_comesTo_2 _ 52 (nI b) (nI k) fu) (nI 8) N) _
    unfold lb_M_comesTo_2
    rw [if_pos (show (8 : Int32) ≤ nI 8 from nI_le (a := 8) (Nat.le_refl _) (by omega))]
    dsimp only
    rw [zt_firstOf hS (by omega), Option.bind_some]
    refine zh_up (F := fun fu i N => lf_M_comesTo_37 52 (nI k) fu i N) k (fun i N => zp_st P b ≤ i ∧ zf_F M N (fun x => x = 58) ∧ ∀ v, v < 8 → mm_I N 58 v = zb_st P (zb_K M) b (i - zp_st P b) v) ?_ ?_ fu_L (zp_st P b) N h1 (by rw [zs_fuel]; omega) ⟨Nat.le_refl _, g1, fun v hv => by rw [Nat.sub_self]; exact g2 v hv⟩
    · intro fu' i N' hi ⟨p0, p1, p2⟩ kk
      have hS' : zt_S N' o P := h.keepA p1 (fun a q => by unfold zt_A; omega)
      have hin : i < zp_ni P := by omega
      have hW' : ∀ v, v < 8 → zc_W (mm_I N' 58 v) := fun v hv => by
        rw [p2 v hv]
        exact zb_st_W hV hb hW _ (by omega) v hv
      have step : ∀ v, zb_st P (zb_K M) b (i + 1 - zp_st P b) v = zc_out P (fun _ w => zb_st P (zb_K M) b (i - zp_st P b) w) i v := by
        intro v
        rw [show i + 1 - zp_st P b = (i - zp_st P b) + 1 by omega]
        show zc_out P _ (zp_st P b + (i - zp_st P b)) v = _
        rw [show zp_st P b + (i - zp_st P b) = i by omega]
      have hdf := zt_df hS' hin
      show zh_H (lb_M_comesTo_37 52 (nI k) (lf_M_comesTo_37 52 (nI k) fu') (nI i) N') _
      unfold lb_M_comesTo_37
      rw [if_neg (nI_ge hi (by omega)), zt_isDef hS' hin, Option.bind_some]
      simp only [zq_jp, Option.bind_some, nI_1]
      by_cases c3 : zp_k P i = 3
      · rw [if_pos (by simp [c3, zb_B])]
        refine kk N' ⟨by omega, p1, fun v hv => ?_⟩
        rw [step v]
        unfold zc_out
        rw [if_neg (fun z => by rw [hdf, if_neg (fun q => q c3)] at z; cases z)]
        exact p2 v hv
      · rw [if_neg (by simp [c3, zb_B])]
        rw [if_pos c3] at hdf
        have ht : zp_t P i < 8 := zp_df_lt hV (Or.inl hin) hdf
        rw [zg_R (zt_e52 hS'), Option.bind_some, hS'.1.2.1.2.2.2.2.2.1, zt_t hS' hin, Option.bind_some, zt_given hS' hin c3 hW', Option.bind_some, zw_I (by rw [zf_k p1]; exact k58) ht (by omega), Option.bind_some]
        refine kk _ ⟨by omega, zf_tr p1 (zf_I (A := fun x => x = 58) rfl _ _), fun v hv => ?_⟩
        rw [step v, zm_II]
        unfold zc_out
        rw [hdf]
        have resE : zc_res P (fun _ w => mm_I N' 58 w) i = zc_res P (fun _ w => zb_st P (zb_K M) b (i - zp_st P b) w) i := by
          have hq := hV.2.2.2.2.2.2.2 i hin
          unfold zc_res
          by_cases c0 : zp_k P i = 0
          · rw [if_pos c0, if_pos c0]
          · have hl : zp_l P i < 8 := hq.2.2.2.1 c0
            have hr : zp_r P i < 8 := hq.2.2.2.2.2
            rw [if_neg c0, if_neg c0]
            dsimp only
            rw [p2 _ hl, p2 _ hr]
        by_cases c : v = zp_t P i
        · rw [if_pos ⟨rfl, c⟩, if_pos (by rw [c]), resE]
        · rw [if_neg (fun z => c z.2), if_neg (fun z => c (Option.some.inj z).symm)]
          exact p2 v hv
    · intro fu' N' ⟨p0, p1, p2⟩
      show zh_H (lb_M_comesTo_37 52 (nI k) (lf_M_comesTo_37 52 (nI k) fu') (nI k) N') _
      unfold lb_M_comesTo_37
      rw [if_pos (nI_le (Nat.le_refl _) (by omega))]
      exact zh_some ⟨p1, p2⟩
end ZTM
