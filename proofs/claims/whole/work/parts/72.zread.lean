/-! ===== points of a program; what the Program object answers ===== -/
def zp_way (P : zp_T) (b k : Nat) : Nat := if k = 0 then zp_f P b else zp_s P b
def zp_bk (P : zp_T) (i : Nat) : Nat := fa_first (fun b => decide (i < zp_st P (b + 1))) (zp_nb P)
def zp_fp (P : zp_T) (b : Nat) : Nat := if zp_st P b < zp_st P (b + 1) then zp_st P b else 40 + b
def zp_nc (P : zp_T) (p : Nat) : Nat := if p < 40 then 1 else zp_w P (p - 40)
def zp_nx (P : zp_T) (p k : Nat) : Nat := if p < 40 then (if p + 1 < zp_st P (zp_bk P p + 1) then p + 1 else 40 + zp_bk P p) else zp_fp P (zp_way P (p - 40) k)
def zp_pt (P : zp_T) (p : Nat) : Prop := p < zp_ni P ∨ (40 ≤ p ∧ p < 40 + zp_nb P)
def zp_ptb (P : zp_T) (p : Nat) : Bool := decide (p < zp_ni P) || (decide (40 ≤ p) && decide (p < 40 + zp_nb P))
def zp_bp (P : zp_T) (p : Nat) : Nat := if p < 40 then zp_bk P p else p - 40
def zp_df (P : zp_T) (p : Nat) : Option Nat := if p < 40 ∧ zp_k P p ≠ 3 then some (zp_t P p) else none
def zp_op (P : zp_T) (i k : Nat) : Option Nat := if k = 0 then (if zp_k P i = 0 then none else some (zp_l P i)) else if k = 1 then (if zp_k P i = 2 then some (zp_r P i) else none) else none
def zp_us (P : zp_T) (p v : Nat) : Bool := if p < 40 then (decide (zp_op P p 0 = some v) || decide (zp_op P p 1 = some v)) else (decide (zp_w P (p - 40) = 2) && decide (zp_x P (p - 40) = v))
theorem zp_ptb_iff {P : zp_T} {p : Nat} : zp_ptb P p = true ↔ zp_pt P p := by
  unfold zp_ptb zp_pt
  simp only [Bool.or_eq_true, Bool.and_eq_true, decide_eq_true_eq]
/-! the blocks' starts -/
theorem zp_mono {P : zp_T} (hV : zp_V P) : ∀ {b c : Nat}, b ≤ c → c ≤ zp_nb P → zp_st P b ≤ zp_st P c := by
  intro b c h hc
  induction c with
  | zero => rw [Nat.le_zero.mp h]; exact Nat.le_refl _
  | succ c ih =>
    rcases Nat.lt_or_ge b (c + 1) with q | q
    · exact Nat.le_trans (ih (by omega) (by omega)) (hV.2.2.2.2.1 c (by omega))
    · rw [show b = c + 1 by omega]; exact Nat.le_refl _
theorem zp_st_le {P : zp_T} (hV : zp_V P) {b : Nat} (hb : b ≤ zp_nb P) : zp_st P b ≤ zp_ni P := by
  rw [← hV.2.2.2.2.2.1]
  exact zp_mono hV hb (Nat.le_refl _)
theorem zp_bk_lt {P : zp_T} (hV : zp_V P) {i : Nat} (hi : i < zp_ni P) : zp_bk P i < zp_nb P := by
  unfold zp_bk
  have h1 := fa_first_le (fun b => decide (i < zp_st P (b + 1))) (zp_nb P)
  rcases Nat.lt_or_ge (fa_first (fun b => decide (i < zp_st P (b + 1))) (zp_nb P)) (zp_nb P) with q | q
  · exact q
  · exfalso
    have h2 := fa_first_no (fun b => decide (i < zp_st P (b + 1))) (zp_nb P) (zp_nb P - 1) (by have := hV.1; omega)
    have h3 := hV.1
    rw [show zp_nb P - 1 + 1 = zp_nb P by omega, hV.2.2.2.2.2.1] at h2
    simp only [decide_eq_false_iff_not] at h2
    omega
theorem zp_bk_hi {P : zp_T} (hV : zp_V P) {i : Nat} (hi : i < zp_ni P) : i < zp_st P (zp_bk P i + 1) := by
  have h := fa_first_yes (fun b => decide (i < zp_st P (b + 1))) (zp_nb P) (zp_bk_lt hV hi)
  simp only [decide_eq_true_eq] at h
  exact h
theorem zp_bk_lo {P : zp_T} (hV : zp_V P) {i : Nat} (hi : i < zp_ni P) : zp_st P (zp_bk P i) ≤ i := by
  cases e : zp_bk P i with
  | zero => rw [hV.2.2.2.1]; exact Nat.zero_le _
  | succ b =>
    have h := fa_first_no (fun b => decide (i < zp_st P (b + 1))) (zp_nb P) b (by show b < zp_bk P i; omega)
    simp only [decide_eq_false_iff_not] at h
    omega
theorem zp_bk_eq {P : zp_T} (hV : zp_V P) {i b : Nat} (hb : b < zp_nb P) (h1 : zp_st P b ≤ i) (h2 : i < zp_st P (b + 1)) : zp_bk P i = b := by
  have hi : i < zp_ni P := Nat.lt_of_lt_of_le h2 (zp_st_le hV hb)
  have a1 := zp_bk_lo hV hi
  have a2 := zp_bk_hi hV hi
  have a3 := zp_bk_lt hV hi
  rcases Nat.lt_trichotomy (zp_bk P i) b with q | q | q
  · have := zp_mono hV (b := zp_bk P i + 1) (c := b) (by omega) (by omega)
    omega
  · exact q
  · have := zp_mono hV (b := b + 1) (c := zp_bk P i) (by omega) (by omega)
    omega
theorem zp_bp_lt {P : zp_T} (hV : zp_V P) {p : Nat} (hp : zp_pt P p) : zp_bp P p < zp_nb P := by
  have := hV.2.2.1
  unfold zp_bp
  rcases hp with h | h
  · rw [if_pos (by omega)]; exact zp_bk_lt hV h
  · rw [if_neg (by omega)]; omega
theorem zp_fp_pt {P : zp_T} (hV : zp_V P) {b : Nat} (hb : b < zp_nb P) : zp_pt P (zp_fp P b) := by
  unfold zp_fp
  split
  · rename_i h
    exact Or.inl (Nat.lt_of_lt_of_le h (zp_st_le hV hb))
  · exact Or.inr ⟨by omega, by omega⟩
theorem zp_way_lt {P : zp_T} (hV : zp_V P) {b k : Nat} (hb : b < zp_nb P) (hk : k < zp_w P b) : zp_way P b k < zp_nb P := by
  obtain ⟨h1, h2, h3⟩ := hV.2.2.2.2.2.2.1 b hb
  have e : zp_w P b = (P.2.2.2.1 b).1 := rfl
  unfold zp_way
  split
  · exact h2 (by omega)
  · exact (h3 (by omega)).2
theorem zp_nx_pt {P : zp_T} (hV : zp_V P) {p k : Nat} (hp : zp_pt P p) (hk : k < zp_nc P p) : zp_pt P (zp_nx P p k) := by
  have := hV.2.2.1
  unfold zp_nx zp_nc at *
  rcases hp with h | h
  · have h2 := zp_bk_lt hV h
    rw [if_pos (by omega)]
    split
    · rename_i c
      exact Or.inl (Nat.lt_of_lt_of_le c (zp_st_le hV h2))
    · exact Or.inr ⟨by omega, by omega⟩
  · rw [if_neg (by omega)] at hk ⊢
    exact zp_fp_pt hV (zp_way_lt hV (by omega) hk)
theorem zp_pt_lt {P : zp_T} (hV : zp_V P) {p : Nat} (hp : zp_pt P p) : p < 52 := by
  have h1 := hV.2.1
  have h2 := hV.2.2.1
  rcases hp with h | h <;> omega
theorem zp_w_le {P : zp_T} (hV : zp_V P) {b : Nat} (hb : b < zp_nb P) : zp_w P b ≤ 2 := (hV.2.2.2.2.2.2.1 b hb).1
theorem zp_nc_le {P : zp_T} (hV : zp_V P) {p : Nat} (hp : zp_pt P p) : zp_nc P p ≤ 2 := by
  have := hV.2.2.1
  unfold zp_nc
  split
  · omega
  · rcases hp with h | h
    · omega
    · exact zp_w_le hV (by omega)
theorem zp_df_lt {P : zp_T} (hV : zp_V P) {p v : Nat} (hp : zp_pt P p) (h : zp_df P p = some v) : v < 8 := by
  unfold zp_df at h
  split at h
  · rename_i c
    rcases hp with q | q
    · have := (hV.2.2.2.2.2.2.2 p q).2.1
      cases h
      exact this
    · omega
  · cases h
theorem zp_op_lt {P : zp_T} (hV : zp_V P) {i k v : Nat} (hi : i < zp_ni P) (h : zp_op P i k = some v) : v < 8 := by
  have h0 := hV.2.2.2.2.2.2.2 i hi
  unfold zp_op at h
  split at h
  · split at h
    · cases h
    · rename_i c
      cases h
      exact h0.2.2.2.1 c
  · split at h
    · split at h
      · cases h
        exact h0.2.2.2.2.2
      · cases h
    · cases h
/-! what the object answers -/
section ZR
variable {M : mm_T} {t : Nat} {P : zp_T}
theorem zr_blocks (hP : zo_P M t) (hH : zo_H M t P) : gf_I M t 7 0 = some (nI (zp_nb P)) := by
  rw [zg_I (by rw [hP.1]), hH.1]
theorem zr_instr (hP : zo_P M t) (hH : zo_H M t P) : gf_I M t 7 1 = some (nI (zp_ni P)) := by
  rw [zg_I (by rw [hP.1]), hH.2.1]
theorem zr_atW (hP : zo_P M t) (hH : zo_H M t P) (hV : zp_V P) {i : Nat} (hi : i < zp_ni P) : ff_D_at_a (t + 1) (nI i) M = some (nI (zp_W (P.2.2.2.2 i))) := by
  have := hV.2.2.1
  rw [zd_at hP.2.2.1 (by omega) (by omega), hH.2.2.1 i hi]
theorem zr_atS (hP : zo_P M t) (hH : zo_H M t P) (hV : zp_V P) {b : Nat} (hb : b ≤ zp_nb P) : ff_D_at_a (t + 2) (nI b) M = some (nI (zp_st P b)) := by
  have := hV.2.1
  rw [zd_at hP.2.2.2.1 (by omega) (by omega), hH.2.2.2.1 b hb]
theorem zr_startOf (hP : zo_P M t) (hH : zo_H M t P) (hV : zp_V P) {b : Nat} (hb : b ≤ zp_nb P) : ff_P_startOf t (nI b) M = some (nI (zp_st P b)) := by
  unfold ff_P_startOf
  rw [zq_gd (by rw [hP.1]), zg_R (by rw [hP.1]), Option.bind_some, hP.2.1.2.1, zr_atS hP hH hV hb, Option.bind_some]
theorem zr_endOf (hP : zo_P M t) (hH : zo_H M t P) (hV : zp_V P) {b : Nat} (hb : b < zp_nb P) : ff_P_endOf t (nI b) M = some (nI (zp_st P (b + 1))) := by
  unfold ff_P_endOf
  rw [zq_gd (by rw [hP.1]), zg_R (by rw [hP.1]), Option.bind_some, hP.2.1.2.1, nI_1, zr_atS hP hH hV hb, Option.bind_some]
theorem zr_sizeOf (hP : zo_P M t) (hH : zo_H M t P) (hV : zp_V P) {b : Nat} (hb : b < zp_nb P) : ff_P_sizeOf t (nI b) M = some (nI (zp_st P (b + 1) - zp_st P b)) := by
  unfold ff_P_sizeOf
  rw [zq_gd (by rw [hP.1]), zg_R (by rw [hP.1]), Option.bind_some, hP.2.1.2.1, nI_1, zr_atS hP hH hV hb, Option.bind_some, Option.bind_some, zr_atS hP hH hV (by omega), Option.bind_some, zi_sub (hV.2.2.2.2.1 b hb)]
theorem zr_wayCount (hP : zo_P M t) (hH : zo_H M t P) (hV : zp_V P) {b : Nat} (hb : b < zp_nb P) : ff_P_wayCount t (nI b) M = some (nI (zp_w P b)) := by
  have := hV.2.1
  unfold ff_P_wayCount
  rw [zq_gd (by rw [hP.1]), zg_R (by rw [hP.1]), Option.bind_some, hP.2.1.2.2.1, zd_at hP.2.2.2.2.1 (by omega) (by omega), hH.2.2.2.2.1 b hb, Option.bind_some]
theorem zr_wayOf (hP : zo_P M t) (hH : zo_H M t P) (hV : zp_V P) {b k : Nat} (hb : b < zp_nb P) (hk : k < zp_w P b) : ff_P_wayOf t (nI b) (nI k) M = some (nI (zp_way P b k)) := by
  have := hV.2.1
  have h2 := zp_w_le hV hb
  unfold ff_P_wayOf zp_way
  rw [zq_gd (by rw [hP.1])]
  by_cases c : k = 0
  · rw [c, if_pos nI_0, if_pos rfl, zg_R (by rw [hP.1]), Option.bind_some, hP.2.1.2.2.2.2.1, zd_at hP.2.2.2.2.2.2.1 (by omega) (by omega), hH.2.2.2.2.2.2.1 b hb (by omega), Option.bind_some]
  · rw [if_neg (nI_ne0 (by omega) (by omega)), if_neg c, zg_R (by rw [hP.1]), Option.bind_some, hP.2.1.2.2.2.2.2, zd_at hP.2.2.2.2.2.2.2 (by omega) (by omega), hH.2.2.2.2.2.2.2 b hb (by omega), Option.bind_some]
theorem zr_testedBy (hP : zo_P M t) (hH : zo_H M t P) (hV : zp_V P) {b : Nat} (hb : b < zp_nb P) (hw : zp_w P b = 2) : ff_P_testedBy t (nI b) M = some (nI (zp_x P b)) := by
  have := hV.2.1
  unfold ff_P_testedBy
  rw [zq_gd (by rw [hP.1]), zg_R (by rw [hP.1]), Option.bind_some, hP.2.1.2.2.2.1, zd_at hP.2.2.2.2.2.1 (by omega) (by omega), hH.2.2.2.2.2.1 b hb hw, Option.bind_some]
theorem zr_word (hP : zo_P M t) (hH : zo_H M t P) (hV : zp_V P) {i : Nat} (hi : i < zp_ni P) : ff_P_word t (nI i) M = some (nI (zp_W (P.2.2.2.2 i))) := by
  unfold ff_P_word
  rw [zq_gd (by rw [hP.1]), zg_R (by rw [hP.1]), Option.bind_some, hP.2.1.1, zr_atW hP hH hV hi, Option.bind_some]
theorem zr_firstPoint (hP : zo_P M t) (hH : zo_H M t P) (hV : zp_V P) {b : Nat} (hb : b < zp_nb P) : ff_P_firstPoint t (nI b) M = some (nI (zp_fp P b)) := by
  have h1 := hV.2.1
  have h2 := hV.2.2.1
  have h3 := zp_st_le hV (b := b) (by omega)
  have h4 := zp_st_le hV (b := b + 1) (by omega)
  unfold ff_P_firstPoint zp_fp
  rw [zq_gd (by rw [hP.1]), zg_R (by rw [hP.1]), Option.bind_some, hP.2.1.2.1, nI_1, zr_atS hP hH hV (by omega), Option.bind_some, Option.bind_some, zr_atS hP hH hV (by omega), Option.bind_some]
  by_cases c : zp_st P b < zp_st P (b + 1)
  · rw [if_neg (nI_ge c (by omega)), if_pos c]
  · rw [if_pos (nI_le (by omega) (by omega)), if_neg c, show (40 : Int32) = nI 40 from rfl, nI_add]
theorem zr_hasPoint (hP : zo_P M t) (hH : zo_H M t P) (hV : zp_V P) {p : Nat} (hp : p < 52) : ff_P_hasPoint t (nI p) M = some (zb_B (zp_ptb P p)) := by
  have h1 := hV.2.1
  have h2 := hV.2.2.1
  unfold ff_P_hasPoint zp_ptb
  rw [zq_gd (by rw [hP.1])]
  by_cases c : 40 ≤ p
  · rw [if_pos (show (40 : Int32) ≤ nI p from nI_le (a := 40) c (by omega)), zr_blocks hP hH, Option.bind_some, show (40 : Int32) = nI 40 from rfl, zi_sub c]
    by_cases c2 : zp_nb P ≤ p - 40
    · rw [if_pos (nI_le c2 (by omega))]
      simp [show ¬ p < zp_ni P by omega, show ¬ p < 40 + zp_nb P by omega, zb_B]
    · rw [if_neg (nI_ge (by omega) (by omega))]
      simp [show p < 40 + zp_nb P by omega, c, zb_B]
  · rw [if_neg (show ¬ (40 : Int32) ≤ nI p from nI_ge (b := 40) (by omega) (by omega)), zr_instr hP hH, Option.bind_some]
    by_cases c2 : zp_ni P ≤ p
    · rw [if_pos (nI_le c2 (by omega))]
      simp [show ¬ p < zp_ni P by omega, c, zb_B]
    · rw [if_neg (nI_ge (by omega) (by omega))]
      simp [show p < zp_ni P by omega, zb_B]
theorem zr_blockAt (hP : zo_P M t) (hH : zo_H M t P) (hV : zp_V P) {p : Nat} (hp : zp_pt P p) : ff_P_blockAt t (nI p) M = some (nI (zp_bp P p)) := by
  have h1 := hV.2.1
  have h2 := hV.2.2.1
  unfold ff_P_blockAt zp_bp
  rw [zq_gd (by rw [hP.1])]
  by_cases c : p < 40
  · have hi : p < zp_ni P := by rcases hp with q | q <;> omega
    have hbl := zp_bk_lt hV hi
    rw [if_pos (show nI p < (40 : Int32) from nI_lt (b := 40) c (by omega)), if_pos c]
    refine zh_is (zh_up (F := fun fu i (_ : Unit) => lf_P_blockAt_13 t (nI p) M fu i) (zp_bk P p) (fun i _ => True) ?_ ?_ fu_L 0 () (Nat.zero_le _) (by unfold fu_L; omega) trivial)
    · intro fu i s hi2 _ k
      show zh_H (lb_P_blockAt_13 t (nI p) M (lf_P_blockAt_13 t (nI p) M fu) (nI i)) _
      have h5 := fa_first_no (fun b => decide (p < zp_st P (b + 1))) (zp_nb P) i hi2
      simp only [decide_eq_false_iff_not] at h5
      unfold lb_P_blockAt_13
      rw [zr_blocks hP hH, Option.bind_some, if_neg (nI_ge (by omega) (by omega)), zg_R (by rw [hP.1]), Option.bind_some, hP.2.1.2.1, nI_1, zr_atS hP hH hV (by omega), Option.bind_some, if_neg (nI_nlt (by omega) (by omega)), Option.bind_some]
      exact k () trivial
    · intro fu s _
      show zh_H (lb_P_blockAt_13 t (nI p) M (lf_P_blockAt_13 t (nI p) M fu) (nI (zp_bk P p))) _
      unfold lb_P_blockAt_13
      have h6 := zp_st_le hV (b := zp_bk P p + 1) (by omega)
      rw [zr_blocks hP hH, Option.bind_some, if_neg (nI_ge (by omega) (by omega)), zg_R (by rw [hP.1]), Option.bind_some, hP.2.1.2.1, nI_1, zr_atS hP hH hV (by omega), Option.bind_some, if_pos (nI_lt (zp_bk_hi hV hi) (by omega))]
      exact zh_some rfl
  · rw [if_neg (show ¬ nI p < (40 : Int32) from nI_nlt (b := 40) (by omega) (by have := zp_pt_lt hV hp; omega)), if_neg c, show (40 : Int32) = nI 40 from rfl, zi_sub (by omega)]
theorem zr_kindAt (hP : zo_P M t) (hH : zo_H M t P) (hV : zp_V P) {p : Nat} (hp : zp_pt P p) : ff_P_kindAt t (nI p) M = some (if p < 40 then nI (zp_k P p) else -1) := by
  have h1 := zp_pt_lt hV hp
  have h2 := hV.2.2.1
  unfold ff_P_kindAt
  rw [zq_gd (by rw [hP.1])]
  by_cases c : p < 40
  · have hi : p < zp_ni P := by rcases hp with q | q <;> omega
    rw [if_neg (show ¬ (40 : Int32) ≤ nI p from nI_ge (b := 40) c (by omega)), if_pos c, zg_R (by rw [hP.1]), Option.bind_some, hP.2.1.1, zr_atW hP hH hV hi, Option.bind_some, zc_kind (hV.2.2.2.2.2.2.2 p hi), Option.bind_some]
    rfl
  · rw [if_pos (show (40 : Int32) ≤ nI p from nI_le (a := 40) (by omega) (by omega)), if_neg c]
theorem zr_definedAt (hP : zo_P M t) (hH : zo_H M t P) (hV : zp_V P) {p : Nat} (hp : zp_pt P p) : ff_P_definedAt t (nI p) M = some (zo_N (zp_df P p)) := by
  have h1 := zp_pt_lt hV hp
  have h2 := hV.2.2.1
  unfold ff_P_definedAt zp_df
  rw [zq_gd (by rw [hP.1]), zr_kindAt hP hH hV hp, Option.bind_some, zq_jp]
  by_cases c : p < 40
  · have hi : p < zp_ni P := by rcases hp with q | q <;> omega
    have hk := (hV.2.2.2.2.2.2.2 p hi).1
    have hk' : zp_k P p ≤ 3 := hk
    rw [if_pos c, if_neg (zi_n1 (by omega))]
    by_cases c2 : zp_k P p = 3
    · rw [c2, if_pos (show nI 3 = (3 : Int32) from rfl), if_neg (by simp)]
      rfl
    · rw [if_neg (show ¬ nI (zp_k P p) = (3 : Int32) from fun h => c2 ((nI_eq (b := 3) (by omega) (by omega)).mp h)), if_pos ⟨c, c2⟩, zg_R (by rw [hP.1]), Option.bind_some, hP.2.1.1, zr_atW hP hH hV hi, Option.bind_some, zc_target (hV.2.2.2.2.2.2.2 p hi), Option.bind_some]
      rfl
  · rw [if_neg c, if_pos rfl, if_neg (fun h => c h.1)]
    rfl
theorem zr_operandAt (hP : zo_P M t) (hH : zo_H M t P) (hV : zp_V P) {i k : Nat} (hi : i < zp_ni P) (hk : k < 2 ^ 31) : ff_P_operandAt t (nI i) (nI k) M = some (zo_N (zp_op P i k)) := by
  have ho := hV.2.2.2.2.2.2.2 i hi
  have ho' : zp_k P i ≤ 3 := ho.1
  have e : (P.2.2.2.2 i).1 = zp_k P i := rfl
  unfold ff_P_operandAt zp_op
  rw [zq_gd (by rw [hP.1]), zg_R (by rw [hP.1]), Option.bind_some, hP.2.1.1, zr_atW hP hH hV hi, Option.bind_some, zq_jp, zc_kind ho, Option.bind_some, Option.bind_some, e]
  by_cases c : k = 0
  · rw [c, if_pos nI_0, if_pos rfl, if_neg (show ¬ nI 0 = (1 : Int32) from fun h => absurd ((nI_eq (b := 1) (by omega) (by omega)).mp h) (by omega))]
    by_cases c2 : zp_k P i = 0
    · rw [c2, if_pos nI_0, if_pos rfl]
      rfl
    · rw [if_neg (nI_ne0 (by omega) (by omega)), if_neg c2, zc_left ho c2, Option.bind_some]
      rfl
  · rw [if_neg (nI_ne0 (by omega) hk), if_neg c]
    by_cases c1 : k = 1
    · rw [c1, if_pos (show nI 1 = (1 : Int32) from rfl), if_pos rfl]
      by_cases c2 : zp_k P i = 2
      · rw [if_pos (show nI (zp_k P i) = (2 : Int32) by rw [c2]; rfl), if_pos c2, zc_right ho (by rw [e, c2]; decide), Option.bind_some]
        rfl
      · rw [if_neg (show ¬ nI (zp_k P i) = (2 : Int32) from fun h => c2 ((nI_eq (b := 2) (by omega) (by omega)).mp h)), if_neg c2]
        rfl
    · rw [if_neg (show ¬ nI k = (1 : Int32) from fun h => c1 ((nI_eq (b := 1) hk (by omega)).mp h)), if_neg c1]
      rfl
theorem zr_nextCount (hP : zo_P M t) (hH : zo_H M t P) (hV : zp_V P) {p : Nat} (hp : zp_pt P p) : ff_P_nextCount t (nI p) M = some (nI (zp_nc P p)) := by
  have h1 := zp_pt_lt hV hp
  have h2 := hV.2.2.1
  have h3 := hV.2.1
  unfold ff_P_nextCount zp_nc
  rw [zq_gd (by rw [hP.1])]
  by_cases c : p < 40
  · rw [if_neg (show ¬ (40 : Int32) ≤ nI p from nI_ge (b := 40) c (by omega)), if_pos c]
    rfl
  · have hb : p - 40 < zp_nb P := by rcases hp with q | q <;> omega
    rw [if_pos (show (40 : Int32) ≤ nI p from nI_le (a := 40) (by omega) (by omega)), if_neg c, zg_R (by rw [hP.1]), Option.bind_some, hP.2.1.2.2.1, show (40 : Int32) = nI 40 from rfl, zi_sub (by omega), zd_at hP.2.2.2.2.1 (by omega) (by omega), hH.2.2.2.2.1 _ hb, Option.bind_some]
theorem zr_nextPoint (hP : zo_P M t) (hH : zo_H M t P) (hV : zp_V P) {p k : Nat} (hp : zp_pt P p) (hk : k < zp_nc P p) : ff_P_nextPoint t (nI p) (nI k) M = some (nI (zp_nx P p k)) := by
  have h1 := zp_pt_lt hV hp
  have h2 := hV.2.2.1
  have h3 := hV.2.1
  unfold ff_P_nextPoint zp_nx
  rw [zq_gd (by rw [hP.1])]
  by_cases c : p < 40
  · have hi : p < zp_ni P := by rcases hp with q | q <;> omega
    have hb := zp_bk_lt hV hi
    have h6 := zp_st_le hV (b := zp_bk P p + 1) (by omega)
    rw [if_pos (show nI p < (40 : Int32) from nI_lt (b := 40) c (by omega)), if_pos c, zr_blockAt hP hH hV hp, Option.bind_some, zg_R (by rw [hP.1]), Option.bind_some, hP.2.1.2.1]
    unfold zp_bp
    rw [if_pos c, nI_1, zr_atS hP hH hV (by omega), Option.bind_some, nI_1]
    by_cases c2 : p + 1 < zp_st P (zp_bk P p + 1)
    · rw [if_neg (nI_ge c2 (by omega)), if_pos c2]
    · rw [if_pos (nI_le (by omega) (by omega)), if_neg c2, show (40 : Int32) = nI 40 from rfl, nI_add]
  · have hb : p - 40 < zp_nb P := by rcases hp with q | q <;> omega
    unfold zp_nc at hk
    rw [if_neg c] at hk
    rw [if_neg (show ¬ nI p < (40 : Int32) from nI_nlt (b := 40) (by omega) (by omega)), if_neg c, show (40 : Int32) = nI 40 from rfl, zi_sub (by omega), zr_wayOf hP hH hV hb hk, Option.bind_some, zr_firstPoint hP hH hV (zp_way_lt hV hb hk), Option.bind_some]
end ZR
