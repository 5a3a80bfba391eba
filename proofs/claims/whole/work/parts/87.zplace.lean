/-! ===== places in blocks and points; paths of blocks and paths of points ===== -/
def zp_pl (P : zp_T) (b k : Nat) : Nat := if k < zp_st P (b + 1) then k else 40 + b
def zp_pc (P : zp_T) (p : Nat) : Nat := if p < 40 then p else zp_st P (p - 40 + 1)
theorem zp_fp_pl (P : zp_T) (b : Nat) : zp_fp P b = zp_pl P b (zp_st P b) := rfl
theorem zp_pl_all {P : zp_T} (hV : zp_V P) {b k : Nat} (hb : b < zp_nb P) (h1 : zp_st P b ≤ k) (h2 : k ≤ zp_st P (b + 1)) : zp_pt P (zp_pl P b k) ∧ zp_bp P (zp_pl P b k) = b ∧ zp_pc P (zp_pl P b k) = k := by
  have hni := hV.2.2.1
  have h3 := zp_st_le hV (b := b + 1) (by omega)
  unfold zp_pl
  by_cases c : k < zp_st P (b + 1)
  · rw [if_pos c]
    refine ⟨Or.inl (by omega), ?_, ?_⟩
    · unfold zp_bp
      rw [if_pos (by omega)]
      exact zp_bk_eq hV hb h1 c
    · unfold zp_pc
      rw [if_pos (by omega)]
  · rw [if_neg c]
    refine ⟨Or.inr ⟨by omega, by omega⟩, ?_, ?_⟩
    · unfold zp_bp
      rw [if_neg (by omega)]
      omega
    · unfold zp_pc
      rw [if_neg (by omega), Nat.add_sub_cancel_left]
      omega
theorem zp_pt_all {P : zp_T} (hV : zp_V P) {p : Nat} (hp : zp_pt P p) : zp_bp P p < zp_nb P ∧ zp_st P (zp_bp P p) ≤ zp_pc P p ∧ zp_pc P p ≤ zp_st P (zp_bp P p + 1) ∧ zp_pl P (zp_bp P p) (zp_pc P p) = p := by
  have hni := hV.2.2.1
  refine ⟨zp_bp_lt hV hp, ?_⟩
  unfold zp_bp zp_pc zp_pl
  by_cases c : p < 40
  · have hi : p < zp_ni P := by rcases hp with q | q <;> omega
    simp only [if_pos c]
    have h1 := zp_bk_lo hV hi
    have h2 := zp_bk_hi hV hi
    exact ⟨h1, by omega, by rw [if_pos h2]⟩
  · have hb : p - 40 < zp_nb P := by rcases hp with q | q <;> omega
    simp only [if_neg c]
    exact ⟨hV.2.2.2.2.1 _ hb, Nat.le_refl _, by rw [if_neg (by omega)]; omega⟩
theorem zp_sc_lo {P : zp_T} (hV : zp_V P) {p q : Nat} (hs : zp_sc P p q) (h40 : p < 40) : q = zp_pl P (zp_bp P p) (p + 1) := by
  obtain ⟨h1, k, h2, rfl⟩ := hs
  unfold zp_nx zp_pl zp_bp
  rw [if_pos h40, if_pos h40]
theorem zp_sc_hi {P : zp_T} (hV : zp_V P) {p q : Nat} (hs : zp_sc P p q) (h40 : ¬ p < 40) : ∃ y, zp_ed P (zp_bp P p) y = true ∧ q = zp_fp P y := by
  obtain ⟨h1, k, h2, rfl⟩ := hs
  have hb : p - 40 < zp_nb P := by rcases h1 with q | q; have := hV.2.2.1; omega; omega
  unfold zp_nc at h2
  rw [if_neg h40] at h2
  unfold zp_nx zp_bp
  rw [if_neg h40, if_neg h40]
  exact ⟨_, (zp_ed_way hV).mpr ⟨hb, k, h2, rfl⟩, rfl⟩
theorem zp_sc_in {P : zp_T} (hV : zp_V P) {b k : Nat} (hb : b < zp_nb P) (h1 : zp_st P b ≤ k) (h2 : k < zp_st P (b + 1)) : zp_sc P k (zp_pl P b (k + 1)) := by
  have hni := hV.2.2.1
  have h3 := zp_st_le hV (b := b + 1) (by omega)
  refine ⟨Or.inl (by omega), 0, by unfold zp_nc; rw [if_pos (by omega)]; omega, ?_⟩
  unfold zp_nx zp_pl
  rw [if_pos (show k < 40 by omega), zp_bk_eq hV hb h1 h2]
theorem zp_sc_out {P : zp_T} (hV : zp_V P) {b y : Nat} (h : zp_ed P b y = true) : zp_sc P (40 + b) (zp_fp P y) := by
  obtain ⟨hb, k, hk, rfl⟩ := (zp_ed_way hV).mp h
  refine ⟨Or.inr ⟨by omega, by omega⟩, k, by unfold zp_nc; rw [if_neg (by omega), Nat.add_sub_cancel_left]; exact hk, ?_⟩
  unfold zp_nx
  rw [if_neg (by omega), Nat.add_sub_cancel_left]
theorem zp_df_hi {P : zp_T} {p : Nat} (h : ¬ p < 40) : zp_df P p = none := by unfold zp_df; rw [if_neg (fun q => h q.1)]
/-- a set of points that goes on wherever v is not defined -/
def zp_CL (P : zp_T) (v : Nat) (R : Nat → Prop) : Prop := ∀ p q, R p → zp_sc P p q → zp_df P p ≠ some v → R q
theorem zp_CL_in {P : zp_T} (hV : zp_V P) {v : Nat} {R : Nat → Prop} (hR : zp_CL P v R) {b k : Nat} (hb : b < zp_nb P) (h1 : zp_st P b ≤ k) (h0 : R (zp_pl P b k)) : ∀ m, k ≤ m → m ≤ zp_st P (b + 1) → ¬ zp_dw P k m v → R (zp_pl P b m) := by
  intro m
  induction m with
  | zero => intro h2 _ _; rw [show 0 = k by omega]; exact h0
  | succ m ih =>
    intro h2 h3 h4
    rcases Nat.lt_or_ge m k with c | c
    · rw [show m + 1 = k by omega]; exact h0
    · have h5 := ih c (by omega) (fun ⟨j, a1, a2, a3⟩ => h4 ⟨j, a1, by omega, a3⟩)
      have e : zp_pl P b m = m := by unfold zp_pl; rw [if_pos (by omega)]
      rw [e] at h5
      exact hR m _ h5 (zp_sc_in hV hb (by omega) (by omega)) (fun q => h4 ⟨m, c, by omega, q⟩)
theorem zp_CL_blocks {P : zp_T} (hV : zp_V P) {v : Nat} {R : Nat → Prop} (hR : zp_CL P v R) {I : Nat → Prop} (hI : ∀ b, I b → R (zp_fp P b)) {b : Nat} (h : zs_R I (zw_E P (some v) none) b) : R (zp_fp P b) := by
  refine zs_ind (S := fun b => R (zp_fp P b)) hI (fun x y _ hx e => ?_) h
  obtain ⟨e1, e2, _⟩ := e
  have hl := (zp_ed_lt hV e2).1
  have hm := hV.2.2.2.2.1 x hl
  have h1 := zp_CL_in hV hR hl (Nat.le_refl _) (zp_fp_pl P x ▸ hx) _ hm (Nat.le_refl _) (e1 v rfl)
  have e : zp_pl P x (zp_st P (x + 1)) = 40 + x := by unfold zp_pl; rw [if_neg (Nat.lt_irrefl _)]
  rw [e] at h1
  exact hR _ _ h1 (zp_sc_out hV e2) (by rw [zp_df_hi (by omega)]; simp)
/-- the points to which one comes from the beginnings of the blocks of I -/
def zp_RS (P : zp_T) (I : Nat → Prop) (v p : Nat) : Prop := zp_pt P p ∧ zs_R I (zw_E P (some v) none) (zp_bp P p) ∧ ¬ zp_dw P (zp_st P (zp_bp P p)) (zp_pc P p) v
theorem zp_RS_fp {P : zp_T} (hV : zp_V P) {I : Nat → Prop} {v b : Nat} (hb : b < zp_nb P) (h : zs_R I (zw_E P (some v) none) b) : zp_RS P I v (zp_fp P b) := by
  obtain ⟨a1, a2, a3⟩ := zp_pl_all hV hb (Nat.le_refl _) (hV.2.2.2.2.1 b hb)
  rw [← zp_fp_pl] at a1 a2 a3
  exact ⟨a1, by rw [a2]; exact h, by rw [a2, a3]; rintro ⟨k, b1, b2, _⟩; omega⟩
theorem zp_dw_succ {P : zp_T} {a m v : Nat} (h : ¬ zp_dw P a m v) (hm : zp_df P m ≠ some v) : ¬ zp_dw P a (m + 1) v := by
  rintro ⟨k, h1, h2, h3⟩
  rcases Nat.lt_or_ge k m with c | c
  · exact h ⟨k, h1, c, h3⟩
  · rw [show k = m by omega] at h3; exact hm h3
theorem zp_RS_CL {P : zp_T} (hV : zp_V P) (I : Nat → Prop) (v : Nat) : zp_CL P v (zp_RS P I v) := by
  rintro p q ⟨h1, h2, h3⟩ hs hd
  obtain ⟨b1, b2, b3, b4⟩ := zp_pt_all hV h1
  by_cases c : p < 40
  · have hi : p < zp_ni P := by rcases h1 with q | q <;> have := hV.2.2.1 <;> omega
    have e := zp_sc_lo hV hs c
    have hpc : zp_pc P p = p := by unfold zp_pc; rw [if_pos c]
    have hhi : p < zp_st P (zp_bp P p + 1) := by
      have := zp_bk_hi hV hi
      unfold zp_bp
      rw [if_pos c]
      exact this
    obtain ⟨a1, a2, a3⟩ := zp_pl_all hV b1 (k := p + 1) (by omega) (by omega)
    rw [← e] at a1 a2 a3
    rw [hpc] at h3
    exact ⟨a1, by rw [a2]; exact h2, by rw [a2, a3]; exact zp_dw_succ h3 hd⟩
  · obtain ⟨y, e1, e2⟩ := zp_sc_hi hV hs c
    rw [e2]
    refine zp_RS_fp hV (zp_ed_lt hV e1).2 (zs_go h2 ⟨fun w hw => ?_, e1, by simp⟩)
    cases hw
    have hpc : zp_pc P p = zp_st P (zp_bp P p + 1) := by unfold zp_pc zp_bp; rw [if_neg c, if_neg c]
    rw [hpc] at h3
    exact h3
theorem zp_RS_iff {P : zp_T} (hV : zp_V P) {I : Nat → Prop} (hI : ∀ b, I b → b < zp_nb P) {v p : Nat} : zs_R (fun q => ∃ b, I b ∧ q = zp_fp P b) (fun p q => zp_sc P p q ∧ zp_df P p ≠ some v) p ↔ zp_RS P I v p := by
  constructor
  · refine zs_ind (S := zp_RS P I v) (fun q ⟨b, h1, h2⟩ => ?_) (fun p q _ hp e => zp_RS_CL hV I v p q hp e.1 e.2)
    rw [h2]
    exact zp_RS_fp hV (hI b h1) (zs_in h1)
  · rintro ⟨h1, h2, h3⟩
    have hR : zp_CL P v (fun p => zs_R (fun q => ∃ b, I b ∧ q = zp_fp P b) (fun p q => zp_sc P p q ∧ zp_df P p ≠ some v) p) := fun p q hp hs hd => zs_go hp ⟨hs, hd⟩
    obtain ⟨b1, b2, b3, b4⟩ := zp_pt_all hV h1
    have h4 := zp_CL_blocks hV hR (fun b hb => zs_in ⟨b, hb, rfl⟩) h2
    have h5 := zp_CL_in hV hR b1 (Nat.le_refl _) (zp_fp_pl P _ ▸ h4) _ b2 b3 h3
    rw [b4] at h5
    exact h5
theorem zp_RI_iff {P : zp_T} (hV : zp_V P) {v p : Nat} : zp_RI P v p ↔ v < 8 ∧ zp_RS P (fun b => b = 0) v p := by
  unfold zp_RI
  refine and_congr_right (fun _ => ?_)
  rw [← zp_RS_iff hV (I := fun b => b = 0) (fun b hb => by rw [hb]; exact hV.1)]
  constructor
  · exact fun h => zs_mono (fun q hq => zs_in ⟨0, rfl, hq⟩) (fun p q hp e => zs_go hp e) h
  · exact fun h => zs_mono (fun q ⟨b, h1, h2⟩ => zs_in (by rw [h2, h1])) (fun p q hp e => zs_go hp e) h
/-- a definition's own block: the places behind it -/
def zp_RH (P : zp_T) (d v p : Nat) : Prop := zp_pt P p ∧ zp_bp P p = zp_bk P d ∧ d < zp_pc P p ∧ ¬ zp_dw P (d + 1) (zp_pc P p) v
theorem zp_RD_iff {P : zp_T} (hV : zp_V P) {d p v : Nat} (hd : d < zp_ni P) (hv : zp_df P d = some v) : zp_RD P d p ↔ zp_RH P d v p ∨ (¬ zp_dw P (d + 1) (zp_st P (zp_bk P d + 1)) v ∧ zp_RS P (fun b => zp_ed P (zp_bk P d) b = true) v p) := by
  have hni := hV.2.2.1
  have hbl := zp_bk_lt hV hd
  have hlo := zp_bk_lo hV hd
  have hhi := zp_bk_hi hV hd
  have hI : ∀ b, zp_ed P (zp_bk P d) b = true → b < zp_nb P := fun b h => (zp_ed_lt hV h).2
  have hbd : zp_bp P d = zp_bk P d := by unfold zp_bp; rw [if_pos (by omega)]
  unfold zp_RD
  rw [hv]
  constructor
  · rintro ⟨-, -, h⟩
    refine zs_ind (S := fun p => zp_RH P d v p ∨ (¬ zp_dw P (d + 1) (zp_st P (zp_bk P d + 1)) v ∧ zp_RS P (fun b => zp_ed P (zp_bk P d) b = true) v p)) (fun q hq => Or.inl ?_) (fun p q _ hp e => ?_) h
    · have e := zp_sc_lo hV hq (by omega)
      rw [hbd] at e
      obtain ⟨a1, a2, a3⟩ := zp_pl_all hV hbl (k := d + 1) (by omega) (by omega)
      rw [← e] at a1 a2 a3
      exact ⟨a1, a2, by omega, by rw [a3]; rintro ⟨k, c1, c2, _⟩; omega⟩
    · obtain ⟨hs, hne⟩ := e
      rcases hp with ⟨g1, g2, g3, g4⟩ | ⟨g1, g2⟩
      · obtain ⟨b1, b2, b3, b4⟩ := zp_pt_all hV g1
        by_cases c : p < 40
        · left
          have hi : p < zp_ni P := by rcases g1 with q | q <;> omega
          have hpc : zp_pc P p = p := by unfold zp_pc; rw [if_pos c]
          have e := zp_sc_lo hV hs c
          have hph : p < zp_st P (zp_bp P p + 1) := by
            have := zp_bk_hi hV hi
            unfold zp_bp
            rw [if_pos c]
            exact this
          obtain ⟨a1, a2, a3⟩ := zp_pl_all hV b1 (k := p + 1) (by omega) (by omega)
          rw [← e] at a1 a2 a3
          rw [hpc] at g3 g4
          exact ⟨a1, a2.trans g2, by omega, by rw [a3]; exact zp_dw_succ g4 hne⟩
        · right
          have hpc : zp_pc P p = zp_st P (zp_bp P p + 1) := by unfold zp_pc zp_bp; rw [if_neg c, if_neg c]
          rw [hpc, g2] at g4
          obtain ⟨y, e1, e2⟩ := zp_sc_hi hV hs c
          rw [g2] at e1
          exact ⟨g4, by rw [e2]; exact zp_RS_fp hV (hI y e1) (zs_in e1)⟩
      · exact Or.inr ⟨g1, zp_RS_CL hV _ v p q g2 hs hne⟩
  · intro h
    have hR : zp_CL P v (fun p => zs_R (fun q => zp_sc P d q) (fun p q => zp_sc P p q ∧ zp_df P p ≠ some v) p) := fun p q hp hs hd => zs_go hp ⟨hs, hd⟩
    have h1 : zs_R (fun q => zp_sc P d q) (fun p q => zp_sc P p q ∧ zp_df P p ≠ some v) (zp_pl P (zp_bk P d) (d + 1)) := zs_in (zp_sc_in hV hbl hlo hhi)
    refine ⟨hd, by simp, ?_⟩
    rcases h with ⟨g1, g2, g3, g4⟩ | ⟨g1, g2⟩
    · obtain ⟨b1, b2, b3, b4⟩ := zp_pt_all hV g1
      rw [g2] at b3 b4
      have h5 := zp_CL_in hV hR hbl (k := d + 1) (by omega) h1 _ (by omega) b3 g4
      rw [b4] at h5
      exact h5
    · have h5 := zp_CL_in hV hR hbl (k := d + 1) (by omega) h1 _ (by omega) (Nat.le_refl _) g1
      have e : zp_pl P (zp_bk P d) (zp_st P (zp_bk P d + 1)) = 40 + zp_bk P d := by unfold zp_pl; rw [if_neg (Nat.lt_irrefl _)]
      rw [e] at h5
      have h6 : ∀ b, zp_ed P (zp_bk P d) b = true → zs_R (fun q => zp_sc P d q) (fun p q => zp_sc P p q ∧ zp_df P p ≠ some v) (zp_fp P b) := fun b hb => hR _ _ h5 (zp_sc_out hV hb) (by rw [zp_df_hi (by omega)]; simp)
      obtain ⟨b1, b2, b3, b4⟩ := zp_pt_all hV g2.1
      have h7 := zp_CL_blocks hV hR h6 g2.2.1
      have h8 := zp_CL_in hV hR b1 (Nat.le_refl _) (zp_fp_pl P _ ▸ h7) _ b2 b3 g2.2.2
      rw [b4] at h8
      exact h8
