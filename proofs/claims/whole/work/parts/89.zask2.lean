/-! ===== the reference: definitions at places; fates and live variables ===== -/
section ZR2
variable {M : mm_T} {o : Nat} {P : zp_T}
theorem zt_in {a b c : Nat} (ha : a < 2 ^ 31) (hb : b < 2 ^ 31) (hc : c < 2 ^ 31) (M : mm_T) : ff_M_in (nI a) (nI b) (nI c) M = some (zb_B (decide (b ≤ a) && decide (a ≤ c))) := by
  unfold ff_M_in
  by_cases c1 : a < b
  · rw [if_pos (nI_lt c1 hb)]; simp [show ¬ b ≤ a by omega, zb_B]
  · rw [if_neg (nI_nlt (by omega) ha)]
    by_cases c2 : c < a
    · rw [if_pos (nI_lt c2 ha)]; simp [show ¬ a ≤ c by omega, zb_B]
    · rw [if_neg (nI_nlt (by omega) hc)]; simp [show b ≤ a by omega, show a ≤ c by omega, zb_B]
theorem zt_reachesPlace (h : zt_S M o P) {d b k : Nat} (hd : d < zp_ni P) (hb : b < zp_nb P) (h1 : zp_st P b ≤ k) (h2 : k ≤ zp_st P (b + 1)) : zt_Q (ff_M_reachesPlace 52 (nI d) (nI b) (nI k) M) M (zp_RD P d (zp_pl P b k)) := by
  have hV := h.2.2.2.2
  have hnb := hV.2.1
  have hni := hV.2.2.1
  have e52 : (mm_k M 52).1 = 11 := by rw [h.1.1]
  have hse := zp_st_le hV (b := b + 1) (by omega)
  obtain ⟨a1, a2, a3⟩ := zp_pl_all hV hb h1 h2
  have hdf := zt_df h hd
  refine zt_Qh ?_
  unfold ff_M_reachesPlace
  rw [zq_gd e52, zt_t h hd, Option.bind_some, zt_isDef h hd, Option.bind_some]
  by_cases c : zp_k P d = 3
  · rw [if_pos (by simp [c, zb_B])]
    refine zt_Qf (zf_rfl _ _) (fun q => q.2.1 ?_)
    rw [hdf, if_neg (fun q => q c)]
  · rw [if_neg (by simp [c, zb_B])]
    rw [if_pos c] at hdf
    have hv : zp_t P d < 8 := zp_df_lt hV (Or.inl hd) hdf
    have key := zp_RD_iff hV (p := zp_pl P b k) hd hdf
    have kH : zp_RH P d (zp_t P d) (zp_pl P b k) ↔ (b = zp_bk P d ∧ d < k ∧ ¬ zp_dw P (d + 1) k (zp_t P d)) := by
      unfold zp_RH
      rw [a2, a3]
      exact ⟨fun q => q.2, fun q => ⟨a1, q⟩⟩
    have kS : zp_RS P (fun b => zp_ed P (zp_bk P d) b = true) (zp_t P d) (zp_pl P b k) ↔ (zs_R (fun y => zp_ed P (zp_bk P d) y = true) (zw_E P (some (zp_t P d)) none) b ∧ ¬ zp_dw P (zp_st P b) k (zp_t P d)) := by
      unfold zp_RS
      rw [a2, a3]
      exact ⟨fun q => q.2, fun q => ⟨a1, q⟩⟩
    rw [kH, kS] at key
    -- what is asked when the definition doesn't stand ahead in the block
    have rest : ¬ (b = zp_bk P d ∧ d < k ∧ ¬ zp_dw P (d + 1) k (zp_t P d)) → zh_H ((ff_M_firstOf 52 (nI b) M).bind fun x5 => (ff_M_definesWithin 52 x5 (nI k) (nI (zp_t P d)) M).bind fun x6 => if x6 = 0 then (bd_2 (ff_M_reachesStart 52 (nI d) (nI b) M) fun x7 M1 => if x7 = 0 then (some ((0 : Int32), M1)) else (some ((1 : Int32), M1))) else (some ((0 : Int32), M))) (fun y => ∃ (b' : Bool) (M' : mm_T), y = (zb_B b', M') ∧ zf_F M M' zt_A ∧ (b' = true ↔ zp_RD P d (zp_pl P b k))) := by
      intro hno
      obtain ⟨w, ew, hw⟩ := zt_dw h h1 (show k ≤ zp_ni P by omega) (show zp_t P d < 2 ^ 31 by omega)
      rw [zt_firstOf h (by omega), Option.bind_some, ew, Option.bind_some]
      cases w with
      | true =>
        rw [if_neg (by decide)]
        refine zt_Qf (zf_rfl _ _) (fun q => ?_)
        rcases key.mp q with q | q
        · exact hno q
        · exact q.2.2 (hw.mp rfl)
      | false =>
        rw [if_pos (by decide)]
        have hnw : ¬ zp_dw P (zp_st P b) k (zp_t P d) := fun q => by have := hw.mpr q; cases this
        refine zt_Qbd (zt_reachesStart h hd hb) (fun N f q => ?_) (fun N f q => ?_)
        · rw [if_neg (by decide)]
          obtain ⟨v, q1, q2, q3⟩ := q
          rw [hdf] at q1
          cases q1
          exact zt_Qt f (key.mpr (Or.inr ⟨q2, q3, hnw⟩))
        · rw [if_pos rfl]
          refine zt_Qf f (fun z => ?_)
          rcases key.mp z with z | z
          · exact hno z
          · exact q ⟨_, hdf, z.1, z.2.1⟩
    rw [zt_firstOf h (by omega), Option.bind_some]
    have hin : ∃ c1 : Bool, ff_M_in (nI d) (nI (zp_st P b)) (nI k - 1) M = some (zb_B c1) ∧ (c1 = true ↔ (zp_st P b ≤ d ∧ d < k)) := by
      rcases Nat.eq_zero_or_pos k with e | e
      · refine ⟨false, ?_, by simp; omega⟩
        unfold ff_M_in
        rw [e]
        by_cases q : nI d < nI (zp_st P b)
        · rw [if_pos q]; rfl
        · rw [if_neg q, if_pos]
          · rfl
          · show nI 0 - 1 < nI d
            have : (nI 0 - 1 : Int32) < 0 := by decide
            have h0 : (0 : Int32) ≤ nI d := nI_pos' (by omega)
            exact Int32.lt_of_lt_of_le this h0
      · rw [show (1 : Int32) = nI 1 from rfl, zi_sub (by omega), zt_in (by omega) (by omega) (by omega)]
        exact ⟨_, rfl, by simp; omega⟩
    obtain ⟨c1, ec1, hc1⟩ := hin
    rw [ec1, Option.bind_some]
    simp only [zq_jp, zt_firstOf h (show b ≤ zp_nb P by omega), Option.bind_some]
    rw [zt_firstOf h (show b ≤ zp_nb P by omega), Option.bind_some] at rest
    cases c1 with
    | false =>
      rw [if_pos (by decide)]
      refine rest (fun q => ?_)
      have hbk := zp_bk_lo hV hd
      rw [← q.1] at hbk
      have := hc1.mpr ⟨hbk, q.2.1⟩
      cases this
    | true =>
      rw [if_neg (by decide)]
      obtain ⟨g1, g2⟩ := hc1.mp rfl
      have hbd : b = zp_bk P d := (zp_bk_eq hV hb g1 (by omega)).symm
      obtain ⟨w, ew, hw⟩ := zt_dw h (a := d + 1) (show d + 1 ≤ k by omega) (show k ≤ zp_ni P by omega) (show zp_t P d < 2 ^ 31 by omega)
      rw [nI_1, ew, Option.bind_some]
      cases w with
      | false =>
        rw [if_pos (by decide)]
        exact zt_Qt (zf_rfl _ _) (key.mpr (Or.inl ⟨hbd, g2, fun q => by have := hw.mpr q; cases this⟩))
      | true =>
        rw [if_neg (by decide)]
        exact rest (fun q => q.2.2 (hw.mp rfl))
end ZR2
/-! live variables: paths of blocks and paths of points, backwards -/
/-- what becomes of v from a place of a block on: it is used (first) -/
def zp_fu (P : zp_T) (b k v : Nat) : Prop := ∃ m, k ≤ m ∧ m ≤ zp_st P (b + 1) ∧ zp_us P (zp_pl P b m) v = true ∧ ¬ zp_dw P k m v
/-- it goes through to the end and further -/
def zp_ft (P : zp_T) (b k v : Nat) : Prop := ¬ zp_dw P k (zp_st P (b + 1)) v
/-- blocks at whose beginning v is live -/
def zp_LB (P : zp_T) (v b : Nat) : Prop := zs_R (fun b => b < zp_nb P ∧ zp_fu P b (zp_st P b) v) (fun y x => zp_ed P x y = true ∧ zp_ft P x (zp_st P x) v) b
theorem zp_LB_lt {P : zp_T} (hV : zp_V P) {v b : Nat} (h : zp_LB P v b) : b < zp_nb P := by
  rcases zs_inv h with q | ⟨y, _, q⟩
  · exact q.1
  · exact (zp_ed_lt hV q.1).1
theorem zp_dw_cons {P : zp_T} {k m v : Nat} (h : ¬ zp_dw P (k + 1) m v) (hk : zp_df P k ≠ some v) : ¬ zp_dw P k m v := by
  rintro ⟨j, h1, h2, h3⟩
  rcases Nat.lt_or_ge k j with c | c
  · exact h ⟨j, c, h2, h3⟩
  · rw [show j = k by omega] at h3; exact hk h3
theorem zp_LV_iff {P : zp_T} (hV : zp_V P) {v b k : Nat} (hv : v < 8) (hb : b < zp_nb P) (h1 : zp_st P b ≤ k) (h2 : k ≤ zp_st P (b + 1)) : zp_LV P v (zp_pl P b k) ↔ zp_fu P b k v ∨ (zp_ft P b k v ∧ ∃ y, zp_ed P b y = true ∧ zp_LB P v y) := by
  -- forwards in the block: from a place that is live to an earlier one
  have back : ∀ b, b < zp_nb P → ∀ k, zp_st P b ≤ k → ∀ n, k + n ≤ zp_st P (b + 1) → ¬ zp_dw P k (k + n) v → zp_LV P v (zp_pl P b (k + n)) → zp_LV P v (zp_pl P b k) := by
    intro b hb k hk n
    induction n with
    | zero => intro _ _ h; exact h
    | succ n ih =>
      intro h3 h4 h5
      have h6 : zp_LV P v (zp_pl P b (k + n)) := by
        have e : zp_pl P b (k + n) = k + n := by unfold zp_pl; rw [if_pos (by omega)]
        rw [e]
        exact ⟨h5.1, zs_go h5.2 ⟨zp_sc_in hV hb (by omega) (by omega), fun q => h4 ⟨k + n, by omega, by omega, q⟩⟩⟩
      exact ih (by omega) (fun ⟨j, q1, q2, q3⟩ => h4 ⟨j, q1, by omega, q3⟩) h6
  have useL : ∀ b, b < zp_nb P → ∀ k, zp_st P b ≤ k → k ≤ zp_st P (b + 1) → zp_fu P b k v → zp_LV P v (zp_pl P b k) := by
    rintro b hb k hk hk2 ⟨m, q1, q2, q3, q4⟩
    obtain ⟨a1, _, _⟩ := zp_pl_all hV hb (k := m) (by omega) q2
    have := back b hb k hk (m - k) (by omega) (by rw [show k + (m - k) = m by omega]; exact q4) (by rw [show k + (m - k) = m by omega]; exact ⟨hv, zs_in ⟨a1, q3⟩⟩)
    exact this
  have endL : ∀ b, b < zp_nb P → ∀ k, zp_st P b ≤ k → k ≤ zp_st P (b + 1) → zp_ft P b k v → ∀ y, zp_ed P b y = true → zp_LV P v (zp_fp P y) → zp_LV P v (zp_pl P b k) := by
    intro b hb k hk hk2 ht y hy hl
    have e : zp_pl P b (zp_st P (b + 1)) = 40 + b := by unfold zp_pl; rw [if_neg (Nat.lt_irrefl _)]
    have h6 : zp_LV P v (zp_pl P b (zp_st P (b + 1))) := by
      rw [e]
      exact ⟨hl.1, zs_go hl.2 ⟨zp_sc_out hV hy, by rw [zp_df_hi (by omega)]; simp⟩⟩
    have := back b hb k hk (zp_st P (b + 1) - k) (by omega) (by rw [show k + (zp_st P (b + 1) - k) = zp_st P (b + 1) by omega]; exact ht) (by rw [show k + (zp_st P (b + 1) - k) = zp_st P (b + 1) by omega]; exact h6)
    exact this
  have blockL : ∀ y, zp_LB P v y → zp_LV P v (zp_fp P y) := by
    refine fun y hy => zs_ind (S := fun y => zp_LV P v (zp_fp P y)) (fun b hb => ?_) (fun y x hy ih e => ?_) hy
    · rw [zp_fp_pl]
      exact useL b hb.1 _ (Nat.le_refl _) (hV.2.2.2.2.1 b hb.1) hb.2
    · have hx := (zp_ed_lt hV e.1).1
      rw [zp_fp_pl]
      exact endL x hx _ (Nat.le_refl _) (hV.2.2.2.2.1 x hx) e.2 y e.1 ih
  constructor
  · intro h
    -- the other way: the set of places that are so is closed backwards
    have key : ∀ p, zp_LV P v p → zp_fu P (zp_bp P p) (zp_pc P p) v ∨ (zp_ft P (zp_bp P p) (zp_pc P p) v ∧ ∃ y, zp_ed P (zp_bp P p) y = true ∧ zp_LB P v y) := by
      intro p hp
      refine zs_ind (S := fun p => zp_fu P (zp_bp P p) (zp_pc P p) v ∨ (zp_ft P (zp_bp P p) (zp_pc P p) v ∧ ∃ y, zp_ed P (zp_bp P p) y = true ∧ zp_LB P v y)) (fun q hq => ?_) (fun q p _ ih e => ?_) hp.2
      · obtain ⟨b1, b2, b3, b4⟩ := zp_pt_all hV hq.1
        exact Or.inl ⟨_, Nat.le_refl _, b3, by rw [b4]; exact hq.2, fun ⟨j, z1, z2, _⟩ => by omega⟩
      · obtain ⟨hs, hd⟩ := e
        obtain ⟨b1, b2, b3, b4⟩ := zp_pt_all hV hs.1
        by_cases c : p < 40
        · have hi : p < zp_ni P := by rcases hs.1 with q | q <;> have := hV.2.2.1 <;> omega
          have hpc : zp_pc P p = p := by unfold zp_pc; rw [if_pos c]
          have e := zp_sc_lo hV hs c
          have hph : p < zp_st P (zp_bp P p + 1) := by
            have := zp_bk_hi hV hi
            unfold zp_bp
            rw [if_pos c]
            exact this
          obtain ⟨a1, a2, a3⟩ := zp_pl_all hV b1 (k := p + 1) (by omega) (by omega)
          rw [← e] at a1 a2 a3
          rw [a2, a3] at ih
          rw [hpc]
          rcases ih with ⟨m, z1, z2, z3, z4⟩ | ⟨z1, z2⟩
          · exact Or.inl ⟨m, by omega, z2, z3, zp_dw_cons z4 hd⟩
          · exact Or.inr ⟨zp_dw_cons z1 hd, z2⟩
        · have hpc : zp_pc P p = zp_st P (zp_bp P p + 1) := by unfold zp_pc zp_bp; rw [if_neg c, if_neg c]
          obtain ⟨y, e1, e2⟩ := zp_sc_hi hV hs c
          have hy := (zp_ed_lt hV e1).2
          obtain ⟨a1, a2, a3⟩ := zp_pl_all hV hy (Nat.le_refl _) (hV.2.2.2.2.1 y hy)
          rw [← zp_fp_pl, ← e2] at a1 a2 a3
          rw [a2, a3] at ih
          refine Or.inr ⟨by rw [hpc]; rintro ⟨j, z1, z2, _⟩; omega, y, e1, ?_⟩
          rcases ih with z | ⟨z1, w, z2, z3⟩
          · exact zs_in ⟨hy, z⟩
          · exact zs_go z3 ⟨z2, z1⟩
    obtain ⟨a1, a2, a3⟩ := zp_pl_all hV hb h1 h2
    have := key _ h
    rw [a2, a3] at this
    exact this
  · rintro (h | ⟨h, y, hy, hl⟩)
    · exact useL b hb k h1 h2 h
    · exact endL b hb k h1 h2 h y hy (blockL y hl)
theorem zp_LV_fp {P : zp_T} (hV : zp_V P) {v y : Nat} (hv : v < 8) (hy : y < zp_nb P) : zp_LV P v (zp_fp P y) ↔ zp_LB P v y := by
  rw [zp_fp_pl, zp_LV_iff hV hv hy (Nat.le_refl _) (hV.2.2.2.2.1 y hy)]
  constructor
  · rintro (h | ⟨h, w, h1, h2⟩)
    · exact zs_in ⟨hy, h⟩
    · exact zs_go h2 ⟨h1, h⟩
  · intro h
    rcases zs_inv h with q | ⟨w, q1, q2⟩
    · exact Or.inl q.2
    · exact Or.inr ⟨q2.2, w, q2.1, q1⟩
