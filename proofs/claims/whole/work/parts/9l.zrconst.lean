/-! ===== the reference: constants by blocks, extended to points ===== -/
def zb_st (P : zp_T) (K : Nat → Nat → Int32) (b : Nat) : Nat → Nat → Int32
  | 0, v => K b v
  | j + 1, v => zc_out P (fun _ w => zb_st P K b j w) (zp_st P b + j) v
noncomputable def zb_F (P : zp_T) (K : Nat → Nat → Int32) (p v : Nat) : Int32 := if zp_b (zp_OP P p) = true then zb_st P K (zp_bp P p) (zp_pc P p - zp_st P (zp_bp P p)) v else -2
theorem zc_out_cong {P : zp_T} {F G : Nat → Nat → Int32} {p v : Nat} (h : ∀ w, F p w = G p w) : zc_out P F p v = zc_out P G p v := by
  unfold zc_out zc_res
  simp only [h]
theorem zb_st_ge {P : zp_T} (hV : zp_V P) {K G : Nat → Nat → Int32} {b : Nat} (hG : zc_pre P G) (hr : zp_RB P b) (h0 : ∀ v, v < 8 → zc_ge (K b v) (G (zp_fp P b) v)) : ∀ j, zp_st P b + j ≤ zp_st P (b + 1) → ∀ v, v < 8 → zc_ge (zb_st P K b j v) (G (zp_pl P b (zp_st P b + j)) v) := by
  have hb := zp_RB_lt hV hr
  intro j
  induction j with
  | zero =>
    intro _ v hv
    rw [Nat.add_zero, ← zp_fp_pl]
    exact h0 v hv
  | succ j ih =>
    intro hj v hv
    have epl : zp_pl P b (zp_st P b + j) = zp_st P b + j := by unfold zp_pl; rw [if_pos (by omega)]
    have ih := ih (by omega)
    rw [epl] at ih
    obtain ⟨a1, a2, _⟩ := zp_pl_all hV hb (k := zp_st P b + j) (by omega) (by omega)
    rw [epl] at a1 a2
    have op : zp_OP P (zp_st P b + j) := ⟨a1, by rw [a2]; exact hr⟩
    have s := hG.2 _ _ op (zp_sc_in hV hb (k := zp_st P b + j) (by omega) (by omega)) v hv
    have m := zc_out_m hV (F := fun _ w => zb_st P K b j w) (G := G) a1 hv (fun w hw => ih w hw)
    exact zc_ge_tr m s
theorem zb_st_W {P : zp_T} (hV : zp_V P) {K : Nat → Nat → Int32} {b : Nat} (hb : b < zp_nb P) (h0 : ∀ v, v < 8 → zc_W (K b v)) : ∀ j, zp_st P b + j ≤ zp_st P (b + 1) → ∀ v, v < 8 → zc_W (zb_st P K b j v) := by
  have hse := zp_st_le hV (b := b + 1) (by omega)
  intro j
  induction j with
  | zero => intro _ v hv; exact h0 v hv
  | succ j ih =>
    intro hj v hv
    have ih := ih (by omega)
    show zc_W (zc_out P (fun _ w => zb_st P K b j w) (zp_st P b + j) v)
    unfold zc_out
    split
    · exact zc_res_W hV (by omega) (fun w hw => ih w hw)
    · exact ih v hv
theorem zb_F_pl {P : zp_T} (hV : zp_V P) {K : Nat → Nat → Int32} {b k : Nat} (hr : zp_RB P b) (h1 : zp_st P b ≤ k) (h2 : k ≤ zp_st P (b + 1)) (v : Nat) : zb_F P K (zp_pl P b k) v = zb_st P K b (k - zp_st P b) v := by
  obtain ⟨a1, a2, a3⟩ := zp_pl_all hV (zp_RB_lt hV hr) h1 h2
  unfold zb_F
  rw [if_pos (zp_b_iff.mpr ⟨a1, by rw [a2]; exact hr⟩), a2, a3]
theorem zb_top {P : zp_T} (hV : zp_V P) {K : Nat → Nat → Int32} (hW : ∀ b, b < zp_nb P → ∀ v, v < 8 → zc_W (K b v)) (h0 : ∀ v, v < 8 → zc_ge 0 (K 0 v)) (hs : ∀ b, zp_RB P b → ∀ y, zp_ed P b y = true → ∀ v, v < 8 → zc_ge (zb_st P K b (zp_st P (b + 1) - zp_st P b) v) (K y v)) (hg : ∀ G, zc_pre P G → ∀ b, zp_RB P b → ∀ v, v < 8 → zc_ge (K b v) (G (zp_fp P b) v)) : zc_top P (zb_F P K) := by
  have fp : ∀ b, zp_RB P b → ∀ v, zb_F P K (zp_fp P b) v = K b v := by
    intro b hb v
    rw [zp_fp_pl, zb_F_pl hV hb (Nat.le_refl _) (hV.2.2.2.2.1 b (zp_RB_lt hV hb)), Nat.sub_self]
    rfl
  refine ⟨⟨fun v hv => ?_, fun p q hp hq v hv => ?_⟩, fun G hG p hp v hv => ?_, fun p _ hn v _ => ?_, fun p _ v hv => ?_⟩
  · rw [fp 0 (zp_RB_0 P)]
    exact h0 v hv
  · obtain ⟨a1, a2, a3, a4⟩ := zp_pt_all hV hp.1
    have hr := hp.2
    by_cases c : p < 40
    · have e := zp_sc_lo hV hq c
      have hi : p < zp_ni P := by rcases hp.1 with z | z <;> omega
      have ebp : zp_bp P p = zp_bk P p := by unfold zp_bp; rw [if_pos c]
      have hlo := zp_bk_lo hV hi
      have hhi := zp_bk_hi hV hi
      rw [ebp] at e hr
      have epl : zp_pl P (zp_bk P p) p = p := by unfold zp_pl; rw [if_pos hhi]
      have eF : ∀ w, zb_F P K p w = zb_st P K (zp_bk P p) (p - zp_st P (zp_bk P p)) w := by
        intro w
        have := zb_F_pl hV (K := K) hr hlo (show p ≤ zp_st P (zp_bk P p + 1) by omega) w
        rw [epl] at this
        exact this
      rw [e, zb_F_pl hV hr (by omega) (by omega), show p + 1 - zp_st P (zp_bk P p) = (p - zp_st P (zp_bk P p)) + 1 by omega]
      show zc_ge _ (zc_out P (fun _ w => zb_st P K (zp_bk P p) (p - zp_st P (zp_bk P p)) w) (zp_st P (zp_bk P p) + (p - zp_st P (zp_bk P p))) v)
      rw [show zp_st P (zp_bk P p) + (p - zp_st P (zp_bk P p)) = p by omega, zc_out_cong (G := fun _ w => zb_st P K (zp_bk P p) (p - zp_st P (zp_bk P p)) w) eF]
      exact zc_ge_rfl _
    · obtain ⟨y, h1, h2⟩ := zp_sc_hi hV hq c
      have ry : zp_RB P y := zs_go hr h1
      have nd : zc_out P (zb_F P K) p v = zb_F P K p v := by
        unfold zc_out
        rw [if_neg (fun z => by
          unfold zp_df at z
          rw [if_neg (fun w => c w.1)] at z
          cases z)]
      have e40 : zp_pc P p = zp_st P (zp_bp P p + 1) := by
        unfold zp_pc zp_bp
        rw [if_neg c, if_neg c]
      rw [h2, fp y ry, nd]
      have := zb_F_pl hV (K := K) hr a2 a3 v
      rw [a4, e40] at this
      rw [this]
      exact hs _ hr y h1 v hv
  · obtain ⟨a1, a2, a3, a4⟩ := zp_pt_all hV hp.1
    have := zb_st_ge hV (K := K) hG hp.2 (hg G hG _ hp.2) (zp_pc P p - zp_st P (zp_bp P p)) (by omega) v hv
    rw [show zp_st P (zp_bp P p) + (zp_pc P p - zp_st P (zp_bp P p)) = zp_pc P p by omega, a4] at this
    unfold zb_F
    rw [if_pos (zp_b_iff.mpr hp)]
    exact this
  · unfold zb_F
    rw [if_neg (by rw [zp_bF hn]; decide)]
  · unfold zb_F
    split
    · rename_i z
      obtain ⟨a1, a2, a3, a4⟩ := zp_pt_all hV (zp_b_iff.mp z).1
      exact zb_st_W hV a1 (hW _ a1) _ (by omega) v hv
    · exact Or.inl rfl
