/-! ===== the class: Constants ===== -/
def zk_C (M : mm_T) : Prop := mm_k M 35 = (1, 0) ∧ (mm_R M 35 1 = 36 ∧ mm_R M 35 2 = 37) ∧ mm_k M 36 = (20, 416) ∧ mm_k M 37 = (20, 40)
theorem zk_C.keep {M M' : mm_T} {A : Nat → Prop} (h : zk_C M) (hf : zf_F M M' A) : zk_C M' := by
  unfold zk_C
  simp only [zf_k hf, zf_R hf]
  exact h
def zn_A (a : Nat) : Prop := 35 ≤ a ∧ a ≤ 37
def zn_F (N : mm_T) (p v : Nat) : Int32 := mm_I N 36 (p * 8 + v)
/-- Constants holds what is so of P -/
def zd_C (M : mm_T) (P : zp_T) : Prop := zc_top P (zn_F M) ∧ ∀ i, i < 40 → ((i < zp_ni P → zp_OP P i → zp_df P i ≠ none → mm_I M 37 i = zc_res P (zn_F M) i) ∧ (¬ (i < zp_ni P ∧ zp_OP P i ∧ zp_df P i ≠ none) → mm_I M 37 i = -2))
theorem zn_state {N : mm_T} (hC : zk_C N) {p v : Nat} (hp : p < 52) (hv : v < 8) : ff_C_stateBefore 35 (nI p) (nI v) N = some (zn_F N p v) := by
  have e35 : (mm_k N 35).1 = 1 := by rw [hC.1]
  unfold ff_C_stateBefore
  rw [zq_gd e35, zg_R e35, Option.bind_some, hC.2.1.1, show (8 : Int32) = nI 8 from rfl, zi_mul, nI_add, zd_at hC.2.2.1 (by omega) (by omega), Option.bind_some]
  rfl
def zn_M (p v : Nat) (x : Int32) (N : mm_T) : mm_T := mm_sI N 36 (p * 8 + v) (zc_meet (zn_F N p v) x)
theorem zn_meet {N : mm_T} (hC : zk_C N) {p v : Nat} (hp : p < 52) (hv : v < 8) (x : Int32) : ∃ c : Bool, ff_C_meet 35 (nI p) (nI v) x N = some (zb_B c, zn_M p v x N) ∧ (c = false ↔ zc_meet (zn_F N p v) x = zn_F N p v) := by
  have e35 : (mm_k N 35).1 = 1 := by rw [hC.1]
  have same : zc_meet (zn_F N p v) x = zn_F N p v → zn_M p v x N = N := by
    intro h
    unfold zn_M
    rw [h]
    exact zm_same N 36 (p * 8 + v)
  unfold ff_C_meet
  rw [zq_gd e35, zn_state hC hp hv, Option.bind_some]
  by_cases c1 : x = -2
  · rw [if_pos c1]
    have h : zc_meet (zn_F N p v) x = zn_F N p v := by unfold zc_meet; rw [if_pos c1]
    rw [same h]
    exact ⟨false, rfl, by simp [h]⟩
  · rw [if_neg c1]
    by_cases c2 : x = zn_F N p v
    · rw [if_pos c2]
      have h : zc_meet (zn_F N p v) x = zn_F N p v := by unfold zc_meet; rw [if_neg c1, if_pos c2]
      rw [same h]
      exact ⟨false, rfl, by simp [h]⟩
    · rw [if_neg c2]
      by_cases c3 : zn_F N p v = -1
      · rw [if_pos c3]
        have h : zc_meet (zn_F N p v) x = zn_F N p v := by unfold zc_meet; rw [if_neg c1, if_neg c2, if_pos c3]
        rw [same h]
        exact ⟨false, rfl, by simp [h]⟩
      · rw [if_neg c3]
        simp only [zg_R e35, Option.bind_some, hC.2.1.1, zq_jp, show (8 : Int32) = nI 8 from rfl, zi_mul, nI_add, zd_put hC.2.2.1 (show p * 8 + v < 416 by omega) (by omega)]
        by_cases c4 : zn_F N p v = -2
        · rw [if_pos c4]
          have h : zc_meet (zn_F N p v) x = x := by unfold zc_meet; rw [if_neg c1, if_neg c2, if_neg c3, if_pos c4]
          refine ⟨true, by unfold zn_M; rw [h]; rfl, by rw [h]; simp [c2]⟩
        · rw [if_neg c4]
          have h : zc_meet (zn_F N p v) x = -1 := by unfold zc_meet; rw [if_neg c1, if_neg c2, if_neg c3, if_neg c4]
          refine ⟨true, by unfold zn_M; rw [h]; rfl, by rw [h]; simp [Ne.symm c3]⟩
theorem zn_MF (p v : Nat) (x : Int32) (N : mm_T) {q w : Nat} (hv : v < 8) (hw : w < 8) : zn_F (zn_M p v x N) q w = if q = p ∧ w = v then zc_meet (zn_F N p v) x else zn_F N q w := by
  unfold zn_M zn_F
  rw [zm_II]
  by_cases c : q = p ∧ w = v
  · rw [if_pos ⟨rfl, by rw [c.1, c.2]⟩, if_pos c]
  · rw [if_neg (fun h => c (by omega)), if_neg c]
theorem zn_result {N : mm_T} {P : zp_T} (hC : zk_C N) (hV : zp_V P) {i : Nat} (hi : i < zp_ni P) (hk : zp_k P i ≠ 3) (hW : ∀ v, v < 8 → zc_W (zn_F N i v)) : ff_C_stateOfResult 35 (nI i) (nI (zp_W (P.2.2.2.2 i))) N = some (zc_res P (zn_F N) i) := by
  have hni := hV.2.2.1
  have hq := hV.2.2.2.2.2.2.2 i hi
  have hk3 : zp_k P i ≤ 3 := hq.1
  have ek : (P.2.2.2.2 i).1 = zp_k P i := rfl
  have e35 : (mm_k N 35).1 = 1 := by rw [hC.1]
  unfold ff_C_stateOfResult zc_res
  rw [zq_gd e35, zc_kind hq, Option.bind_some, ek]
  by_cases c : zp_k P i = 0
  · rw [if_pos (by rw [c]; exact nI_0), if_pos c, zc_const hq c, Option.bind_some]
    rfl
  · have hl : zp_l P i < 8 := hq.2.2.2.1 c
    have hr : zp_r P i < 8 := hq.2.2.2.2.2
    have ho : zp_o P i ≤ 2 := hq.2.2.2.2.1
    rw [if_neg (nI_ne0 (by omega) (by omega)), if_neg c, zc_left hq c, Option.bind_some]
    rw [show (P.2.2.2.2 i).2.2.1 = zp_l P i from rfl, zn_state hC (by omega) hl, Option.bind_some]
    by_cases c1 : zp_k P i = 1
    · rw [if_pos (show nI (zp_k P i) = (1 : Int32) by rw [c1]; rfl), if_pos c1]
    · rw [if_neg (show ¬ nI (zp_k P i) = (1 : Int32) from fun h => c1 ((nI_eq (b := 1) (by omega) (by omega)).mp h)), if_neg c1, zc_right hq c, Option.bind_some]
      rw [show (P.2.2.2.2 i).2.2.2.2 = zp_r P i from rfl, zn_state hC (by omega) hr, Option.bind_some]
      simp only [zq_jp]
      have wl := hW _ hl
      have wr := hW _ hr
      generalize zn_F N i (zp_l P i) = x at wl
      generalize zn_F N i (zp_r P i) = y at wr
      rcases wl with rfl | rfl | ⟨a, ha, rfl⟩
      · rw [if_pos (by decide), if_neg (by decide)]
        unfold zc_cal
        rw [if_neg (show ¬ ((0 : Int32) ≤ -2 ∧ 0 ≤ y) from fun q => zc_n2 q.1)]
        by_cases cy : y = -1
        · rw [if_pos cy, if_pos (Or.inr cy)]
        · rw [if_neg cy, if_neg (fun q => q.elim (fun q => zc_21 q) cy)]
      · rw [if_pos (by decide), if_pos (by decide)]
        unfold zc_cal
        rw [if_neg (fun q => zc_n1 q.1), if_pos (Or.inl rfl)]
      · rw [if_neg (nI_pos (by omega)), if_neg (zi_n1 (by omega))]
        rcases wr with rfl | rfl | ⟨b, hb, rfl⟩
        · rw [if_pos (by decide), if_neg (by decide)]
          unfold zc_cal
          rw [if_neg (fun q => zc_n2 q.2), if_neg (fun q => q.elim (zi_n1 (by omega)) (fun q => zc_21 q))]
        · rw [if_pos (by decide), if_pos (by decide)]
          unfold zc_cal
          rw [if_neg (fun q => zc_n1 q.2), if_pos (Or.inr rfl)]
        · rw [if_neg (nI_pos (by omega)), zc_oper hq c, Option.bind_some]
          rw [show (P.2.2.2.2 i).2.2.2.1 = zp_o P i from rfl, zc_result ho ha hb, Option.bind_some]
          unfold zc_cal
          rw [if_pos ⟨nI_pos' (by omega), nI_pos' (by omega)⟩, nI_clamp (by omega), nI_clamp (by omega)]
/-! the rounds -/
def zc_h (x : Int32) : Nat := if x = -2 then 2 else if x = -1 then 0 else 1
def zn_mu (N : mm_T) : Nat := fb_sm (fun k => zc_h (mm_I N 36 k)) 416
theorem zc_h_meet (x y : Int32) : zc_h (zc_meet x y) ≤ zc_h x ∧ (zc_meet x y ≠ x → zc_h (zc_meet x y) < zc_h x) := by
  unfold zc_meet
  split
  · exact ⟨Nat.le_refl _, fun h => absurd rfl h⟩
  · split
    · exact ⟨Nat.le_refl _, fun h => absurd rfl h⟩
    · split
      · exact ⟨Nat.le_refl _, fun h => absurd rfl h⟩
      · rename_i c1 c2 c3
        split
        · rename_i c4
          have : zc_h y < zc_h x := by
            unfold zc_h
            rw [if_neg c1, if_pos c4]
            split <;> omega
          exact ⟨Nat.le_of_lt this, fun _ => this⟩
        · rename_i c4
          have : zc_h (-1) < zc_h x := by
            unfold zc_h
            rw [if_neg (by decide), if_pos rfl, if_neg c4, if_neg c3]
            omega
          exact ⟨Nat.le_of_lt this, fun _ => this⟩
theorem zn_Mmu {p v : Nat} {x : Int32} {N : mm_T} (hp : p < 52) (hv : v < 8) : zn_mu (zn_M p v x N) ≤ zn_mu N ∧ (zc_meet (zn_F N p v) x ≠ zn_F N p v → zn_mu (zn_M p v x N) < zn_mu N) := by
  have e : (fun k => zc_h (mm_I (zn_M p v x N) 36 k)) = fun k => if k = p * 8 + v then zc_h (zc_meet (zn_F N p v) x) else zc_h (mm_I N 36 k) := by
    funext k
    unfold zn_M
    rw [zm_II]
    by_cases c : k = p * 8 + v
    · rw [if_pos ⟨rfl, c⟩, if_pos c]
    · rw [if_neg (fun q => c q.2), if_neg c]
  have h1 := fb_sm_upd (fun k => zc_h (mm_I N 36 k)) (zc_h (zc_meet (zn_F N p v) x)) (i := p * 8 + v) (n := 416) (by omega)
  have h2 := zc_h_meet (zn_F N p v) x
  have h3 : zc_h (mm_I N 36 (p * 8 + v)) = zc_h (zn_F N p v) := rfl
  unfold zn_mu
  rw [e]
  rw [h3] at h1
  exact ⟨by omega, fun q => by have := h2.2 q; omega⟩
def zn_Inv (M : mm_T) (P : zp_T) (N : mm_T) : Prop := zf_F M N (fun x => x = 36 ∨ x = 37) ∧ (∀ p, p < 52 → ∀ v, v < 8 → zc_W (zn_F N p v)) ∧ (∀ G, zc_pre P G → ∀ p, zp_OP P p → ∀ v, v < 8 → zc_ge (zn_F N p v) (G p v)) ∧ (∀ p, p < 52 → ¬ zp_OP P p → ∀ v, v < 8 → zn_F N p v = -2) ∧ (∀ v, v < 8 → zc_ge 0 (zn_F N (zp_fp P 0) v)) ∧ ∀ i, i < 40 → ¬ (i < zp_ni P ∧ zp_OP P i ∧ zp_df P i ≠ none) → mm_I N 37 i = -2
def zn_St (P : zp_T) (p : Nat) (N : mm_T) : Prop := zp_OP P p → (∀ k, k < zp_nc P p → ∀ v, v < 8 → zc_ge (zc_out P (zn_F N) p v) (zn_F N (zp_nx P p k) v)) ∧ (zp_df P p ≠ none → mm_I N 37 p = zc_res P (zn_F N) p)
theorem zn_InvM {M N : mm_T} {P : zp_T} (hV : zp_V P) (hI : zn_Inv M P N) {q v : Nat} {x : Int32} (hq : zp_OP P q) (hv : v < 8) (hx : zc_W x) (hg : ∀ G, zc_pre P G → zc_ge x (G q v)) : zn_Inv M P (zn_M q v x N) := by
  obtain ⟨h1, h2, h3, h4, h5, h6⟩ := hI
  have hq52 := zp_pt_lt hV hq.1
  refine ⟨zf_tr h1 (zf_I (A := fun x => x = 36 ∨ x = 37) (Or.inl rfl) _ _), fun p hp w hw => ?_, fun G hG p hp w hw => ?_, fun p hp hn w hw => ?_, fun w hw => ?_, fun i hi hn => ?_⟩
  · rw [zn_MF _ _ _ _ hv hw]
    split
    · exact zc_meet_W (h2 q hq52 v hv) hx
    · exact h2 p hp w hw
  · rw [zn_MF _ _ _ _ hv hw]
    split
    · rename_i c
      rw [c.1, c.2]
      exact zc_meet_g (h3 G hG q hq v hv) (hg G hG)
    · exact h3 G hG p hp w hw
  · rw [zn_MF _ _ _ _ hv hw]
    split
    · rename_i c
      exact absurd (c.1 ▸ hq) hn
    · exact h4 p hp hn w hw
  · rw [zn_MF _ _ _ _ hv hw]
    split
    · rename_i c
      have := h5 w hw
      rw [c.1, c.2] at this
      exact zc_ge_tr this (zc_meet_l _ _)
    · exact h5 w hw
  · unfold zn_M
    rw [zm_II, if_neg (by omega)]
    exact h6 i hi hn
