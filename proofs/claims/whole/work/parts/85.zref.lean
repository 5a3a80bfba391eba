/-! ===== the reference: its object, what a slot holds, the readers ===== -/
def zt_R (M : mm_T) : Prop := mm_k M 52 = (11, 0) ∧ (mm_R M 52 0 = 53 ∧ mm_R M 52 1 = 54 ∧ mm_R M 52 5 = 55 ∧ mm_R M 52 6 = 56 ∧ mm_R M 52 7 = 57 ∧ mm_R M 52 8 = 58 ∧ mm_R M 52 9 = 59 ∧ mm_R M 52 14 = 60 ∧ mm_R M 52 22 = 61 ∧ mm_R M 52 23 = 62) ∧ mm_k M 53 = (20, 2620) ∧ mm_k M 54 = (22, 2) ∧ mm_k M 55 = (22, 12) ∧ mm_k M 56 = (22, 12) ∧ mm_k M 57 = (20, 96) ∧ mm_k M 58 = (20, 8) ∧ mm_k M 59 = (20, 8) ∧ mm_k M 60 = (20, 700) ∧ mm_k M 61 = (20, 24) ∧ mm_k M 62 = (20, 1000)
/-- slot o holds P -/
def zt_H (M : mm_T) (o : Nat) (P : zp_T) : Prop := mm_I M 53 (262 * o + 0) = nI (zp_nb P) ∧ mm_I M 53 (262 * o + 1) = nI (zp_ni P) ∧ (∀ b, b < zp_nb P → mm_I M 53 (262 * o + (2 + 5 * b + 0)) = nI (zp_st P (b + 1) - zp_st P b) ∧ mm_I M 53 (262 * o + (2 + 5 * b + 1)) = nI (zp_w P b) ∧ (zp_w P b = 2 → mm_I M 53 (262 * o + (2 + 5 * b + 2)) = nI (zp_x P b)) ∧ (1 ≤ zp_w P b → mm_I M 53 (262 * o + (2 + 5 * b + 3)) = nI (zp_f P b)) ∧ (zp_w P b = 2 → mm_I M 53 (262 * o + (2 + 5 * b + 4)) = nI (zp_s P b))) ∧ ∀ i, i < zp_ni P → mm_I M 53 (262 * o + (62 + 5 * i + 0)) = nI (zp_k P i) ∧ mm_I M 53 (262 * o + (62 + 5 * i + 1)) = nI (zp_t P i) ∧ mm_I M 53 (262 * o + (62 + 5 * i + 2)) = nI (zp_l P i) ∧ mm_I M 53 (262 * o + (62 + 5 * i + 3)) = nI (zp_o P i) ∧ mm_I M 53 (262 * o + (62 + 5 * i + 4)) = nI (zp_r P i)
def zt_S (M : mm_T) (o : Nat) (P : zp_T) : Prop := zt_R M ∧ mm_I M 52 2 = nI o ∧ o ≤ 9 ∧ zt_H M o P ∧ zp_V P
theorem zt_R.keep {M M' : mm_T} {A : Nat → Prop} (h : zt_R M) (hf : zf_F M M' A) : zt_R M' := by
  unfold zt_R
  simp only [zf_k hf, zf_R hf]
  exact h
theorem zt_H.keep {M M' : mm_T} {o : Nat} {P : zp_T} (h : zt_H M o P) (h53 : ∀ k, mm_I M' 53 k = mm_I M 53 k) : zt_H M' o P := by
  unfold zt_H
  simp only [h53]
  exact h
theorem zt_S.keep {M M' : mm_T} {A : Nat → Prop} {o : Nat} {P : zp_T} (h : zt_S M o P) (hf : zf_F M M' A) (h52 : mm_I M' 52 2 = mm_I M 52 2) (h53 : ∀ k, mm_I M' 53 k = mm_I M 53 k) : zt_S M' o P :=
  ⟨h.1.keep hf, h52.trans h.2.1, h.2.2.1, h.2.2.2.1.keep h53, h.2.2.2.2⟩
/-- scratch rows of the questions -/
def zt_A (a : Nat) : Prop := 55 ≤ a ∧ a ≤ 58
theorem zt_S.keepA {M M' : mm_T} {A : Nat → Prop} {o : Nat} {P : zp_T} (h : zt_S M o P) (hf : zf_F M M' A) (hA : ∀ a, A a → zt_A a) : zt_S M' o P :=
  h.keep hf (zf_i hf (fun q => by have := hA _ q; unfold zt_A at this; omega) 2) (fun k => zf_i hf (fun q => by have := hA _ q; unfold zt_A at this; omega) k)
section ZT
variable {M : mm_T} {o : Nat} {P : zp_T}
theorem zt_get (hR : zt_R M) (hO : mm_I M 52 2 = nI o) (ho : o ≤ 9) {w : Nat} (hw : w < 262) : ff_M_get 52 (nI w) M = some (mm_I M 53 (262 * o + w)) := by
  have e52 : (mm_k M 52).1 = 11 := by rw [hR.1]
  unfold ff_M_get
  rw [zq_gd e52, zg_R e52, Option.bind_some, hR.2.1.1, zg_I e52, Option.bind_some, hO, show (262 : Int32) = nI 262 from rfl, zi_mul, nI_add, za_I hR.2.2.1 (by omega) (by omega), Option.bind_some]
theorem zt_lay (hR : zt_R M) (hO : mm_I M 52 2 = nI o) (ho : o ≤ 9) {w : Nat} (hw : w < 262) (v : Int32) : ff_M_lay 52 (nI w) v M = some (mm_sI M 53 (262 * o + w) v) := by
  have e52 : (mm_k M 52).1 = 11 := by rw [hR.1]
  unfold ff_M_lay
  rw [zq_gd e52, zg_R e52, Option.bind_some, hR.2.1.1, zg_I e52, Option.bind_some, hO, show (262 : Int32) = nI 262 from rfl, zi_mul, nI_add, zw_I hR.2.2.1 (by omega) (by omega), Option.bind_some]
theorem zt_bl0 (hR : zt_R M) (hO : mm_I M 52 2 = nI o) (ho : o ≤ 9) {b f : Nat} (hb : b < 12) (hf : f < 5) : ff_M_bl 52 (nI b) (nI f) M = some (mm_I M 53 (262 * o + (2 + 5 * b + f))) := by
  have e52 : (mm_k M 52).1 = 11 := by rw [hR.1]
  unfold ff_M_bl
  rw [zq_gd e52, show (2 : Int32) = nI 2 from rfl, show (5 : Int32) = nI 5 from rfl, zi_mul, nI_add, nI_add, zt_get hR hO ho (by omega), Option.bind_some]
theorem zt_it0 (hR : zt_R M) (hO : mm_I M 52 2 = nI o) (ho : o ≤ 9) {i f : Nat} (hi : i < 40) (hf : f < 5) : ff_M_it 52 (nI i) (nI f) M = some (mm_I M 53 (262 * o + (62 + 5 * i + f))) := by
  have e52 : (mm_k M 52).1 = 11 := by rw [hR.1]
  unfold ff_M_it
  rw [zq_gd e52, show (62 : Int32) = nI 62 from rfl, show (5 : Int32) = nI 5 from rfl, zi_mul, nI_add, nI_add, zt_get hR hO ho (by omega), Option.bind_some]
theorem zt_nb (h : zt_S M o P) : ff_M_get 52 0 M = some (nI (zp_nb P)) := by
  rw [show (0 : Int32) = nI 0 from rfl, zt_get h.1 h.2.1 h.2.2.1 (by omega), h.2.2.2.1.1]
theorem zt_ni (h : zt_S M o P) : ff_M_get 52 1 M = some (nI (zp_ni P)) := by
  rw [show (1 : Int32) = nI 1 from rfl, zt_get h.1 h.2.1 h.2.2.1 (by omega), h.2.2.2.1.2.1]
theorem zt_len (h : zt_S M o P) {b : Nat} (hb : b < zp_nb P) : ff_M_bl 52 (nI b) 0 M = some (nI (zp_st P (b + 1) - zp_st P b)) := by
  have := h.2.2.2.2.2.1
  rw [show (0 : Int32) = nI 0 from rfl, zt_bl0 h.1 h.2.1 h.2.2.1 (by omega) (by omega), (h.2.2.2.1.2.2.1 b hb).1]
theorem zt_k (h : zt_S M o P) {i : Nat} (hi : i < zp_ni P) : ff_M_it 52 (nI i) 0 M = some (nI (zp_k P i)) := by
  have := h.2.2.2.2.2.2.1
  rw [show (0 : Int32) = nI 0 from rfl, zt_it0 h.1 h.2.1 h.2.2.1 (by omega) (by omega), (h.2.2.2.1.2.2.2 i hi).1]
theorem zt_t (h : zt_S M o P) {i : Nat} (hi : i < zp_ni P) : ff_M_it 52 (nI i) 1 M = some (nI (zp_t P i)) := by
  have := h.2.2.2.2.2.2.1
  rw [show (1 : Int32) = nI 1 from rfl, zt_it0 h.1 h.2.1 h.2.2.1 (by omega) (by omega), (h.2.2.2.1.2.2.2 i hi).2.1]
theorem zt_l (h : zt_S M o P) {i : Nat} (hi : i < zp_ni P) : ff_M_it 52 (nI i) 2 M = some (nI (zp_l P i)) := by
  have := h.2.2.2.2.2.2.1
  rw [show (2 : Int32) = nI 2 from rfl, zt_it0 h.1 h.2.1 h.2.2.1 (by omega) (by omega), (h.2.2.2.1.2.2.2 i hi).2.2.1]
theorem zt_o (h : zt_S M o P) {i : Nat} (hi : i < zp_ni P) : ff_M_it 52 (nI i) 3 M = some (nI (zp_o P i)) := by
  have := h.2.2.2.2.2.2.1
  rw [show (3 : Int32) = nI 3 from rfl, zt_it0 h.1 h.2.1 h.2.2.1 (by omega) (by omega), (h.2.2.2.1.2.2.2 i hi).2.2.2.1]
theorem zt_r (h : zt_S M o P) {i : Nat} (hi : i < zp_ni P) : ff_M_it 52 (nI i) 4 M = some (nI (zp_r P i)) := by
  have := h.2.2.2.2.2.2.1
  rw [show (4 : Int32) = nI 4 from rfl, zt_it0 h.1 h.2.1 h.2.2.1 (by omega) (by omega), (h.2.2.2.1.2.2.2 i hi).2.2.2.2]
theorem zt_firstOf (h : zt_S M o P) {b : Nat} (hb : b ≤ zp_nb P) : ff_M_firstOf 52 (nI b) M = some (nI (zp_st P b)) := by
  have hV := h.2.2.2.2
  have hnb := hV.2.1
  have e52 : (mm_k M 52).1 = 11 := by rw [h.1.1]
  unfold ff_M_firstOf
  rw [zq_gd e52]
  refine zh_is (zh_up (F := fun fu i (x : Int32) => lf_M_firstOf_4 52 (nI b) M fu x i) b (fun i x => x = nI (zp_st P i)) ?_ ?_ fu_L 0 0 (Nat.zero_le _) (by rw [zs_fuel]; omega) (by rw [hV.2.2.2.1]; rfl))
  · intro fu i x hi hx k
    show zh_H (lb_M_firstOf_4 52 (nI b) M (lf_M_firstOf_4 52 (nI b) M fu) x (nI i)) _
    unfold lb_M_firstOf_4
    rw [if_neg (nI_ge hi (by omega)), zt_len h (by omega), Option.bind_some, Option.bind_some, Option.bind_some, nI_1]
    refine k _ ?_
    have := hV.2.2.2.2.1 i (by omega)
    rw [hx, nI_add]
    congr 1
    omega
  · intro fu x hx
    show zh_H (lb_M_firstOf_4 52 (nI b) M (lf_M_firstOf_4 52 (nI b) M fu) x (nI b)) _
    unfold lb_M_firstOf_4
    rw [if_pos (nI_le (Nat.le_refl _) (by omega))]
    exact zh_some hx
theorem zt_endOf (h : zt_S M o P) {b : Nat} (hb : b < zp_nb P) : ff_M_endOf 52 (nI b) M = some (nI (zp_st P (b + 1))) := by
  have e52 : (mm_k M 52).1 = 11 := by rw [h.1.1]
  have := h.2.2.2.2.2.2.2.2.1 b hb
  unfold ff_M_endOf
  rw [zq_gd e52, zt_firstOf h (by omega), Option.bind_some, zt_len h hb, Option.bind_some, nI_add]
  congr 2
  omega
theorem zt_blockAt (h : zt_S M o P) {i : Nat} (hi : i < zp_ni P) : ff_M_blockAt 52 (nI i) M = some (nI (zp_bk P i)) := by
  have hV := h.2.2.2.2
  have hnb := hV.2.1
  have hni := hV.2.2.1
  have e52 : (mm_k M 52).1 = 11 := by rw [h.1.1]
  have hbl := zp_bk_lt hV hi
  unfold ff_M_blockAt
  rw [zq_gd e52]
  refine zh_is (zh_up (F := fun fu b (_ : Unit) => lf_M_blockAt_2 52 (nI i) M fu b) (zp_bk P i) (fun _ _ => True) ?_ ?_ fu_L 0 () (Nat.zero_le _) (by rw [zs_fuel]; omega) trivial)
  · intro fu b s hb _ k
    show zh_H (lb_M_blockAt_2 52 (nI i) M (lf_M_blockAt_2 52 (nI i) M fu) (nI b)) _
    have h5 := fa_first_no (fun b => decide (i < zp_st P (b + 1))) (zp_nb P) b hb
    simp only [decide_eq_false_iff_not] at h5
    unfold lb_M_blockAt_2
    rw [zt_endOf h (by omega), Option.bind_some, if_neg (nI_nlt (by omega) (by omega)), Option.bind_some, nI_1]
    exact k () trivial
  · intro fu s _
    show zh_H (lb_M_blockAt_2 52 (nI i) M (lf_M_blockAt_2 52 (nI i) M fu) (nI (zp_bk P i))) _
    have h6 := zp_st_le hV (b := zp_bk P i + 1) (by omega)
    unfold lb_M_blockAt_2
    rw [zt_endOf h hbl, Option.bind_some, if_pos (nI_lt (zp_bk_hi hV hi) (by omega))]
    exact zh_some rfl
theorem zt_ways (h : zt_S M o P) {b : Nat} (hb : b < zp_nb P) : ff_M_ways 52 (nI b) M = some (nI (zp_w P b)) := by
  have := h.2.2.2.2.2.1
  have e52 : (mm_k M 52).1 = 11 := by rw [h.1.1]
  unfold ff_M_ways
  rw [zq_gd e52, show (1 : Int32) = nI 1 from rfl, zt_bl0 h.1 h.2.1 h.2.2.1 (by omega) (by omega), Option.bind_some, (h.2.2.2.1.2.2.1 b hb).2.1]
theorem zt_exit (h : zt_S M o P) {b : Nat} (hb : b < zp_nb P) : ff_M_bl 52 (nI b) 1 M = some (nI (zp_w P b)) := by
  have := h.2.2.2.2.2.1
  rw [show (1 : Int32) = nI 1 from rfl, zt_bl0 h.1 h.2.1 h.2.2.1 (by omega) (by omega), (h.2.2.2.1.2.2.1 b hb).2.1]
theorem zt_x (h : zt_S M o P) {b : Nat} (hb : b < zp_nb P) (hw : zp_w P b = 2) : ff_M_bl 52 (nI b) 2 M = some (nI (zp_x P b)) := by
  have := h.2.2.2.2.2.1
  rw [show (2 : Int32) = nI 2 from rfl, zt_bl0 h.1 h.2.1 h.2.2.1 (by omega) (by omega), (h.2.2.2.1.2.2.1 b hb).2.2.1 hw]
theorem zt_f (h : zt_S M o P) {b : Nat} (hb : b < zp_nb P) (hw : 1 ≤ zp_w P b) : ff_M_bl 52 (nI b) 3 M = some (nI (zp_f P b)) := by
  have := h.2.2.2.2.2.1
  rw [show (3 : Int32) = nI 3 from rfl, zt_bl0 h.1 h.2.1 h.2.2.1 (by omega) (by omega), (h.2.2.2.1.2.2.1 b hb).2.2.2.1 hw]
theorem zt_s (h : zt_S M o P) {b : Nat} (hb : b < zp_nb P) (hw : zp_w P b = 2) : ff_M_bl 52 (nI b) 4 M = some (nI (zp_s P b)) := by
  have := h.2.2.2.2.2.1
  rw [show (4 : Int32) = nI 4 from rfl, zt_bl0 h.1 h.2.1 h.2.2.1 (by omega) (by omega), (h.2.2.2.1.2.2.1 b hb).2.2.2.2 hw]
theorem zt_way (h : zt_S M o P) {b k : Nat} (hb : b < zp_nb P) (hk : k < zp_w P b) : ff_M_way 52 (nI b) (nI k) M = some (nI (zp_way P b k)) := by
  have e52 : (mm_k M 52).1 = 11 := by rw [h.1.1]
  have hw := zp_w_le h.2.2.2.2 hb
  unfold ff_M_way zp_way
  rw [zq_gd e52]
  simp only [zq_jp]
  by_cases c : k = 0
  · rw [c, if_pos nI_0, if_pos rfl, zt_f h hb (by omega), Option.bind_some]
  · rw [if_neg (nI_ne0 (by omega) (by omega)), if_neg c, zt_s h hb (by omega), Option.bind_some]
theorem zt_leads (h : zt_S M o P) {a b : Nat} (ha : a < zp_nb P) (hb : b < 2 ^ 31) : ff_M_leads 52 (nI a) (nI b) M = some (zb_B (zp_ed P a b)) := by
  have hV := h.2.2.2.2
  have hnb := hV.2.1
  have e52 : (mm_k M 52).1 = 11 := by rw [h.1.1]
  have hw := zp_w_le hV ha
  unfold ff_M_leads
  rw [zq_gd e52]
  refine zh_is (zh_up (F := fun fu i (_ : Unit) => lf_M_leads_2 52 (nI a) (nI b) M fu i) (zp_w P a) (fun i _ => ∀ k, k < i → b ≠ zp_way P a k) ?_ ?_ fu_L 0 () (Nat.zero_le _) (by rw [zs_fuel]; omega) (fun k hk => absurd hk (Nat.not_lt_zero _)))
  · intro fu i s hi hno k
    show zh_H (lb_M_leads_2 52 (nI a) (nI b) M (lf_M_leads_2 52 (nI a) (nI b) M fu) (nI i)) _
    have hq := zp_way_lt hV ha hi
    unfold lb_M_leads_2
    rw [zt_ways h ha, Option.bind_some, if_neg (nI_ge hi (by omega)), zt_way h ha hi, Option.bind_some]
    by_cases c : zp_way P a i = b
    · rw [if_pos (by rw [c])]
      refine zh_some ?_
      rw [(zp_ed_way hV).mpr ⟨ha, i, hi, c.symm⟩]
      rfl
    · rw [if_neg (fun q => c ((nI_eq (by omega) hb).mp q)), Option.bind_some, nI_1]
      refine k () (fun j hj => ?_)
      rcases Nat.lt_or_ge j i with c2 | c2
      · exact hno j c2
      · rw [show j = i by omega]; exact Ne.symm c
  · intro fu s hno
    show zh_H (lb_M_leads_2 52 (nI a) (nI b) M (lf_M_leads_2 52 (nI a) (nI b) M fu) (nI (zp_w P a))) _
    unfold lb_M_leads_2
    rw [zt_ways h ha, Option.bind_some, if_pos (nI_le (Nat.le_refl _) (by omega))]
    refine zh_some ?_
    cases e : zp_ed P a b with
    | false => rfl
    | true =>
      obtain ⟨_, k, hk, q⟩ := (zp_ed_way hV).mp e
      exact absurd q (hno k hk)
theorem zt_isDef (h : zt_S M o P) {i : Nat} (hi : i < zp_ni P) : ff_M_isDefinition 52 (nI i) M = some (zb_B (decide (zp_k P i ≠ 3))) := by
  have e52 : (mm_k M 52).1 = 11 := by rw [h.1.1]
  have hk3 : zp_k P i ≤ 3 := (h.2.2.2.2.2.2.2.2.2.2.2 i hi).1
  unfold ff_M_isDefinition
  rw [zq_gd e52, zt_k h hi, Option.bind_some]
  by_cases c : zp_k P i = 3
  · rw [if_pos (show nI (zp_k P i) = (3 : Int32) by rw [c]; rfl)]; simp [c, zb_B]
  · rw [if_neg (show ¬ nI (zp_k P i) = (3 : Int32) from fun q => c ((nI_eq (b := 3) (by omega) (by omega)).mp q))]; simp [c, zb_B]
theorem zt_df (h : zt_S M o P) {i : Nat} (hi : i < zp_ni P) : zp_df P i = if zp_k P i ≠ 3 then some (zp_t P i) else none := by
  have := h.2.2.2.2.2.2.1
  unfold zp_df
  by_cases c : zp_k P i = 3
  · rw [if_neg (fun q => q.2 c), if_neg (fun q => q c)]
  · rw [if_pos ⟨by omega, c⟩, if_pos c]
theorem zt_defines (h : zt_S M o P) {i v : Nat} (hi : i < zp_ni P) (hv : v < 2 ^ 31) : ff_M_defines 52 (nI i) (nI v) M = some (zb_B (decide (zp_df P i = some v))) := by
  have e52 : (mm_k M 52).1 = 11 := by rw [h.1.1]
  have ht8 : zp_t P i < 8 := (h.2.2.2.2.2.2.2.2.2.2.2 i hi).2.1
  unfold ff_M_defines
  rw [zq_gd e52, zt_isDef h hi, Option.bind_some, zt_df h hi]
  by_cases c : zp_k P i = 3
  · rw [if_pos (by simp [c, zb_B]), if_neg (fun q => q c)]; simp [zb_B]
  · rw [if_neg (by simp [c, zb_B]), if_pos c, zt_t h hi, Option.bind_some]
    by_cases c2 : zp_t P i = v
    · rw [if_pos (by rw [c2])]; simp [c2, zb_B]
    · rw [if_neg (fun q => c2 ((nI_eq (by omega) hv).mp q))]; simp [c2, zb_B]
theorem zt_uses (h : zt_S M o P) {i v : Nat} (hi : i < zp_ni P) (hv : v < 2 ^ 31) : ff_M_uses 52 (nI i) (nI v) M = some (zb_B (zp_us P i v)) := by
  have hni := h.2.2.2.2.2.2.1
  have e52 : (mm_k M 52).1 = 11 := by rw [h.1.1]
  have hq := h.2.2.2.2.2.2.2.2.2.2.2 i hi
  have hk3 : zp_k P i ≤ 3 := hq.1
  have hl : zp_l P i < 1000 := hq.2.2.1
  have hr : zp_r P i < 8 := hq.2.2.2.2.2
  unfold ff_M_uses zp_us
  rw [zq_gd e52, zt_k h hi, Option.bind_some, if_pos (show i < 40 by omega)]
  have ne : ∀ n, n ≤ 3 → zp_k P i ≠ n → ¬ nI (zp_k P i) = nI n := fun n hn c q => c ((nI_eq (by omega) (by omega)).mp q)
  by_cases c0 : zp_k P i = 0
  · rw [if_pos (show nI (zp_k P i) = (0 : Int32) by rw [c0]; rfl)]
    simp [zp_op, c0, zb_B]
  · rw [if_neg (show ¬ nI (zp_k P i) = (0 : Int32) from ne 0 (by omega) c0), zt_l h hi, Option.bind_some, zt_r h hi]
    simp only [zq_jp, Option.bind_some]
    by_cases c2 : zp_k P i = 2
    · rw [if_pos (show nI (zp_k P i) = (2 : Int32) by rw [c2]; rfl)]
      by_cases cl : zp_l P i = v
      · rw [if_pos (by rw [cl])]; simp [zp_op, c2, cl, zb_B]
      · rw [if_neg (fun q => cl ((nI_eq (by omega) hv).mp q))]
        by_cases cr : zp_r P i = v
        · rw [if_pos (by rw [cr])]; simp [zp_op, c2, cr, zb_B]
        · rw [if_neg (fun q => cr ((nI_eq (by omega) hv).mp q))]; simp [zp_op, c2, cl, cr, zb_B]
    · rw [if_neg (show ¬ nI (zp_k P i) = (2 : Int32) from ne 2 (by omega) c2)]
      by_cases cl : zp_l P i = v
      · rw [if_pos (by rw [cl])]; simp [zp_op, c0, cl, zb_B]
      · rw [if_neg (fun q => cl ((nI_eq (by omega) hv).mp q))]; simp [zp_op, c0, c2, cl, zb_B]
theorem zt_usesX (h : zt_S M o P) {b v : Nat} (hb : b < zp_nb P) (hv : v < 2 ^ 31) : ff_M_usesAtExit 52 (nI b) (nI v) M = some (zb_B (zp_us P (40 + b) v)) := by
  have hV := h.2.2.2.2
  have e52 : (mm_k M 52).1 = 11 := by rw [h.1.1]
  have hw := zp_w_le hV hb
  unfold ff_M_usesAtExit zp_us
  rw [zq_gd e52, zt_exit h hb, Option.bind_some, if_neg (show ¬ 40 + b < 40 by omega), Nat.add_sub_cancel_left]
  by_cases c : zp_w P b = 2
  · have hx : zp_x P b < 8 := ((hV.2.2.2.2.2.2.1 _ hb).2.2 c).1
    rw [if_pos (show nI (zp_w P b) = (2 : Int32) by rw [c]; rfl), zt_x h hb c, Option.bind_some]
    by_cases c2 : zp_x P b = v
    · rw [if_pos (by rw [c2])]; simp [c, c2, zb_B]
    · rw [if_neg (fun q => c2 ((nI_eq (by omega) hv).mp q))]; simp [c2, zb_B]
  · rw [if_neg (show ¬ nI (zp_w P b) = (2 : Int32) from fun q => c ((nI_eq (b := 2) (by omega) (by omega)).mp q))]; simp [c, zb_B]
/-- whether a variable is defined from one instruction to ahead of another -/
def zp_dw (P : zp_T) (a e v : Nat) : Prop := ∃ k, a ≤ k ∧ k < e ∧ zp_df P k = some v
theorem zt_dw (h : zt_S M o P) {a e v : Nat} (ha : a ≤ e) (he : e ≤ zp_ni P) (hv : v < 2 ^ 31) : ∃ b : Bool, ff_M_definesWithin 52 (nI a) (nI e) (nI v) M = some (zb_B b) ∧ (b = true ↔ zp_dw P a e v) := by
  have hni := h.2.2.2.2.2.2.1
  have e52 : (mm_k M 52).1 = 11 := by rw [h.1.1]
  unfold ff_M_definesWithin
  rw [zq_gd e52]
  suffices goal : zh_H (lf_M_definesWithin_3 52 (nI e) (nI v) M fu_L (nI a)) (fun x => ∃ b : Bool, x = zb_B b ∧ (b = true ↔ zp_dw P a e v)) by
    obtain ⟨x, ex, b, rfl, hb⟩ := goal
    exact ⟨b, ex, hb⟩
  refine zh_up (F := fun fu i (_ : Unit) => lf_M_definesWithin_3 52 (nI e) (nI v) M fu i) e (fun i _ => a ≤ i ∧ ∀ k, a ≤ k → k < i → zp_df P k ≠ some v) ?_ ?_ fu_L a () ha (by rw [zs_fuel]; omega) ⟨Nat.le_refl _, fun k h1 h2 => by omega⟩
  · intro fu i s hi ⟨h1, h2⟩ k
    show zh_H (lb_M_definesWithin_3 52 (nI e) (nI v) M (lf_M_definesWithin_3 52 (nI e) (nI v) M fu) (nI i)) _
    unfold lb_M_definesWithin_3
    rw [if_neg (nI_ge hi (by omega)), zt_defines h (by omega) hv, Option.bind_some]
    by_cases c : zp_df P i = some v
    · rw [if_neg (by simp [c, zb_B])]
      exact zh_some ⟨true, rfl, by simp; exact ⟨i, h1, hi, c⟩⟩
    · rw [if_pos (by simp [c, zb_B]), Option.bind_some, nI_1]
      refine k () ⟨by omega, fun j g1 g2 => ?_⟩
      rcases Nat.lt_or_ge j i with c2 | c2
      · exact h2 j g1 c2
      · rw [show j = i by omega]; exact c
  · intro fu s ⟨h1, h2⟩
    show zh_H (lb_M_definesWithin_3 52 (nI e) (nI v) M (lf_M_definesWithin_3 52 (nI e) (nI v) M fu) (nI e)) _
    unfold lb_M_definesWithin_3
    rw [if_pos (nI_le (Nat.le_refl _) (by omega))]
    refine zh_some ⟨false, rfl, by simp; rintro ⟨k, g1, g2, g3⟩; exact h2 k g1 g2 g3⟩
end ZT
