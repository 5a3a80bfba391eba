/-! ===== the class: rows filled; Reaching ===== -/
theorem zf_fillI {M : mm_T} {a n : Nat} (h : mm_k M a = (20, n)) (hn : n < 1000) (v : Int32) : ∃ M', ff_D_fill_a a v M = some M' ∧ zf_F M M' (fun x => x = a) ∧ (∀ j, mm_J M' a j = mm_J M a j) ∧ ∀ j, mm_I M' a j = if j < n then v else mm_I M a j := by
  unfold ff_D_fill_a
  refine zh_up (F := fun fu i N => lf_D_fill_a_2 a v fu i N) (Q := fun M' => zf_F M M' (fun x => x = a) ∧ (∀ j, mm_J M' a j = mm_J M a j) ∧ ∀ j, mm_I M' a j = if j < n then v else mm_I M a j) n (fun i N => zf_F M N (fun x => x = a) ∧ (∀ j, mm_J N a j = mm_J M a j) ∧ ∀ j, mm_I N a j = if j < i then v else mm_I M a j) ?_ ?_ fu_L 0 M (Nat.zero_le _) (by rw [zs_fuel]; omega) ⟨zf_rfl _ _, fun _ => rfl, fun j => by simp⟩
  · intro fu i N hi ⟨h1, h2, h3⟩ k
    have hk : mm_k N a = (20, n) := by rw [zf_k h1, h]
    show zh_H (lb_D_fill_a_2 a v (lf_D_fill_a_2 a v fu) (nI i) N) _
    unfold lb_D_fill_a_2
    rw [za_N hk (by omega), Option.bind_some, if_neg (nI_ge hi (by omega)), zw_I hk hi (by omega), Option.bind_some, Option.bind_some, nI_1]
    refine k _ ⟨zf_tr h1 (zf_I (A := fun x => x = a) rfl _ _), h2, fun j => ?_⟩
    rw [zm_II, h3 j]
    by_cases c : j = i
    · subst c; simp
    · by_cases c2 : j < i
      · simp [c, c2, Nat.lt_succ_of_lt c2]
      · simp [c, c2, show ¬ j < i + 1 by omega]
  · intro fu N ⟨h1, h2, h3⟩
    have hk : mm_k N a = (20, n) := by rw [zf_k h1, h]
    show zh_H (lb_D_fill_a_2 a v (lf_D_fill_a_2 a v fu) (nI n) N) _
    unfold lb_D_fill_a_2
    rw [za_N hk (by omega), Option.bind_some, if_pos (nI_le (Nat.le_refl _) (by omega))]
    exact zh_some ⟨h1, h2, h3⟩
theorem zf_fillJ {M : mm_T} {a n : Nat} (h : mm_k M a = (21, n)) (hn : n < 1000) (v : Int64) : ∃ M', ff_D_fill_b a v M = some M' ∧ zf_F M M' (fun x => x = a) ∧ (∀ j, mm_I M' a j = mm_I M a j) ∧ ∀ j, mm_J M' a j = if j < n then v else mm_J M a j := by
  unfold ff_D_fill_b
  refine zh_up (F := fun fu i N => lf_D_fill_b_2 a v fu i N) (Q := fun M' => zf_F M M' (fun x => x = a) ∧ (∀ j, mm_I M' a j = mm_I M a j) ∧ ∀ j, mm_J M' a j = if j < n then v else mm_J M a j) n (fun i N => zf_F M N (fun x => x = a) ∧ (∀ j, mm_I N a j = mm_I M a j) ∧ ∀ j, mm_J N a j = if j < i then v else mm_J M a j) ?_ ?_ fu_L 0 M (Nat.zero_le _) (by rw [zs_fuel]; omega) ⟨zf_rfl _ _, fun _ => rfl, fun j => by simp⟩
  · intro fu i N hi ⟨h1, h2, h3⟩ k
    have hk : mm_k N a = (21, n) := by rw [zf_k h1, h]
    show zh_H (lb_D_fill_b_2 a v (lf_D_fill_b_2 a v fu) (nI i) N) _
    unfold lb_D_fill_b_2
    rw [za_N hk (by omega), Option.bind_some, if_neg (nI_ge hi (by omega)), zw_J hk hi (by omega), Option.bind_some, Option.bind_some, nI_1]
    refine k _ ⟨zf_tr h1 (zf_J (A := fun x => x = a) rfl _ _), h2, fun j => ?_⟩
    rw [zm_JJ, h3 j]
    by_cases c : j = i
    · subst c; simp
    · by_cases c2 : j < i
      · simp [c, c2, Nat.lt_succ_of_lt c2]
      · simp [c, c2, show ¬ j < i + 1 by omega]
  · intro fu N ⟨h1, h2, h3⟩
    have hk : mm_k N a = (21, n) := by rw [zf_k h1, h]
    show zh_H (lb_D_fill_b_2 a v (lf_D_fill_b_2 a v fu) (nI n) N) _
    unfold lb_D_fill_b_2
    rw [za_N hk (by omega), Option.bind_some, if_pos (nI_le (Nat.le_refl _) (by omega))]
    exact zh_some ⟨h1, h2, h3⟩
/-! what reaches a point -/
def zp_sc (P : zp_T) (p q : Nat) : Prop := zp_pt P p ∧ ∃ k, k < zp_nc P p ∧ q = zp_nx P p k
theorem zp_sc_pt {P : zp_T} (hV : zp_V P) {p q : Nat} (h : zp_sc P p q) : zp_pt P q := by
  obtain ⟨h1, k, h2, rfl⟩ := h
  exact zp_nx_pt hV h1 h2
def zp_RD (P : zp_T) (d p : Nat) : Prop := d < zp_ni P ∧ zp_df P d ≠ none ∧ zs_R (fun q => zp_sc P d q) (fun p q => zp_sc P p q ∧ zp_df P p ≠ zp_df P d) p
def zp_RI (P : zp_T) (v p : Nat) : Prop := v < 8 ∧ zs_R (fun q => q = zp_fp P 0) (fun p q => zp_sc P p q ∧ zp_df P p ≠ some v) p
theorem zp_RD_pt {P : zp_T} (hV : zp_V P) {d p : Nat} (h : zp_RD P d p) : zp_pt P p := by
  rcases zs_inv h.2.2 with q | ⟨x, _, q⟩
  · exact zp_sc_pt hV q
  · exact zp_sc_pt hV q.1
theorem zp_RI_pt {P : zp_T} (hV : zp_V P) {v p : Nat} (h : zp_RI P v p) : zp_pt P p := by
  rcases zs_inv h.2 with q | ⟨x, _, q⟩
  · rw [q]; exact zp_fp_pt hV hV.1
  · exact zp_sc_pt hV q.1
/-- the Reaching object: 24, its rows 25, 26, 27 -/
def zk_R (M : mm_T) : Prop := mm_k M 24 = (8, 0) ∧ (mm_R M 24 1 = 25 ∧ mm_R M 24 2 = 26 ∧ mm_R M 24 3 = 27) ∧ mm_k M 25 = (21, 52) ∧ mm_k M 26 = (20, 52) ∧ mm_k M 27 = (21, 8)
theorem zk_R.keep {M M' : mm_T} {A : Nat → Prop} (h : zk_R M) (hf : zf_F M M' A) : zk_R M' := by
  unfold zk_R
  simp only [zf_k hf, zf_R hf]
  exact h
def zd_A (a : Nat) : Prop := 24 ≤ a ∧ a ≤ 27
def zd_O (M : mm_T) (P : zp_T) (n : Nat) : Prop := ∀ v, v < 8 → ∀ d, d < 64 → bl (mm_J M 27 v) d = (decide (d < n) && decide (zp_df P d = some v))
/-- Reaching holds what is so of P -/
def zd_R (M : mm_T) (P : zp_T) : Prop := (∀ p, p < 52 → ∀ d, d < 64 → (bl (mm_J M 25 p) d = true ↔ zp_RD P d p)) ∧ (∀ p, p < 52 → ∀ v, v < 32 → (bt (mm_I M 26 p) v = true ↔ zp_RI P v p)) ∧ zd_O M P (zp_ni P)
theorem zd_collect {M : mm_T} {P : zp_T} (hR : zk_R M) (hP : zo_P M 45) (hH : zo_H M 45 P) (hV : zp_V P) : ∃ M', ff_R_collectDefinitions 24 45 M = some M' ∧ zf_F M M' (fun x => x = 27) ∧ zd_O M' P (zp_ni P) := by
  have hni := hV.2.2.1
  unfold ff_R_collectDefinitions
  rw [zq_gd (by rw [hR.1]), zg_R (by rw [hR.1]), Option.bind_some, hR.2.1.2.2]
  obtain ⟨M1, e1, f1, _, g1⟩ := zf_fillJ hR.2.2.2.2 (by omega) 0
  rw [e1, Option.bind_some]
  refine zh_up (F := fun fu i N => lf_R_collectDefinitions_10 24 45 fu i N) (Q := fun M' => zf_F M M' (fun x => x = 27) ∧ zd_O M' P (zp_ni P)) (zp_ni P) (fun i N => zf_F M N (fun x => x = 27) ∧ zd_O N P i) ?_ ?_ fu_L 0 M1 (Nat.zero_le _) (by rw [zs_fuel]; omega) ⟨f1, fun v hv d hd => by rw [g1 v, if_pos hv, zl_0]; simp⟩
  · intro fu i N hi ⟨h1, h2⟩ k
    have hP' := hP.keep h1
    have hR' := hR.keep h1
    have hH' : zo_H N 45 P := hH.keep (fun a q1 q2 k => zf_i h1 (by omega) k)
    show zh_H (lb_R_collectDefinitions_10 24 45 (lf_R_collectDefinitions_10 24 45 fu) (nI i) N) _
    unfold lb_R_collectDefinitions_10
    have hp : zp_pt P i := Or.inl hi
    rw [zr_instr hP' hH', Option.bind_some, if_neg (nI_ge hi (by omega)), zr_definedAt hP' hH' hV hp, Option.bind_some, zq_jp]
    cases e : zp_df P i with
    | none =>
      rw [if_pos zo_none]
      simp only [Option.bind_some, nI_1]
      refine k _ ⟨h1, fun v hv d hd => ?_⟩
      rw [h2 v hv d hd]
      by_cases c : d = i
      · subst c; simp [e]
      · rcases Nat.lt_or_ge d i with c2 | c2
        · simp [c2, Nat.lt_succ_of_lt c2]
        · simp [show ¬ d < i by omega, show ¬ d < i + 1 by omega]
    | some t =>
      have ht := zp_df_lt hV hp e
      rw [zo_some, if_neg (zi_n1 (by omega)), zg_R (by rw [hR'.1]), Option.bind_some, hR'.2.1.2.2, Option.bind_some, zd_atL hR'.2.2.2.2 ht (by omega), Option.bind_some, zd_putL hR'.2.2.2.2 ht (by omega), Option.bind_some]
      simp only [Option.bind_some, nI_1]
      refine k _ ⟨zf_tr h1 (zf_J (A := fun x => x = 27) rfl _ _), fun v hv d hd => ?_⟩
      rw [zm_JJ]
      by_cases c : v = t
      · subst c
        rw [if_pos ⟨rfl, rfl⟩, zl_or, h2 v hv d hd, zl_one i (by omega)]
        by_cases c2 : d = i
        · subst c2; simp [e]
        · rcases Nat.lt_or_ge d i with c3 | c3
          · simp [c2, c3, Nat.lt_succ_of_lt c3]
          · simp [c2, show ¬ d < i by omega, show ¬ d < i + 1 by omega]
      · rw [if_neg (fun q => c q.2), h2 v hv d hd]
        by_cases c2 : d = i
        · subst c2
          have : ¬ t = v := fun q => c q.symm
          simp [e, this]
        · rcases Nat.lt_or_ge d i with c3 | c3
          · simp [c3, Nat.lt_succ_of_lt c3]
          · simp [show ¬ d < i by omega, show ¬ d < i + 1 by omega]
  · intro fu N ⟨h1, h2⟩
    have hP' := hP.keep h1
    have hH' : zo_H N 45 P := hH.keep (fun a q1 q2 k => zf_i h1 (by omega) k)
    show zh_H (lb_R_collectDefinitions_10 24 45 (lf_R_collectDefinitions_10 24 45 fu) (nI (zp_ni P)) N) _
    unfold lb_R_collectDefinitions_10
    rw [zr_instr hP' hH', Option.bind_some, if_pos (nI_le (Nat.le_refl _) (by omega))]
    exact zh_some ⟨h1, h2⟩
/-! the rounds -/
def zd_bit (N : mm_T) (x : Nat) : Bool := if x % 96 < 64 then bl (mm_J N 25 (x / 96)) (x % 96) else bt (mm_I N 26 (x / 96)) (x % 96 - 64)
def zd_mu (N : mm_T) : Nat := fb_ct (fun x => !zd_bit N x) 4992
def zd_Inv (M : mm_T) (P : zp_T) (N : mm_T) : Prop := zf_F M N zd_A ∧ zd_O N P (zp_ni P) ∧ (∀ p, p < 52 → ∀ d, d < 64 → bl (mm_J N 25 p) d = true → zp_RD P d p) ∧ (∀ p, p < 52 → ∀ v, v < 32 → bt (mm_I N 26 p) v = true → zp_RI P v p) ∧ ∀ v, v < 8 → bt (mm_I N 26 (zp_fp P 0)) v = true
/-- what leaves a point -/
def zd_X (N : mm_T) (P : zp_T) (p : Nat) : Int64 := match zp_df P p with
  | none => mm_J N 25 p
  | some t => (mm_J N 25 p &&& (mm_J N 27 t ^^^ (-1))) ||| jo_shl 1 (nI p)
def zd_Y (N : mm_T) (P : zp_T) (p : Nat) : Int32 := match zp_df P p with
  | none => mm_I N 26 p
  | some t => mm_I N 26 p &&& ((io_shl 1 (nI t)) ^^^ (-1))
def zd_St (P : zp_T) (p : Nat) (N : mm_T) : Prop := zp_pt P p → ∀ k, k < zp_nc P p → mm_J N 25 (zp_nx P p k) ||| zd_X N P p = mm_J N 25 (zp_nx P p k) ∧ mm_I N 26 (zp_nx P p k) ||| zd_Y N P p = mm_I N 26 (zp_nx P p k)
def zd_J (X : Int64) (Y : Int32) (q : Nat) (N : mm_T) : mm_T := mm_sI (mm_sJ N 25 q (mm_J N 25 q ||| X)) 26 q (mm_I N 26 q ||| Y)
theorem zd_cmp (x y : Int64) : lg_cmp x y = 0 ↔ x = y := by
  unfold lg_cmp
  by_cases c : x = y
  · rw [if_neg (by rw [c]; exact Int64.lt_irrefl), if_pos c]; simp [c]
  · rw [if_neg c]
    by_cases c2 : x > y
    · rw [if_pos c2]; simp [c]
    · rw [if_neg c2]; simp only [c, iff_false]; decide
theorem zb_Z0 : zb_Z 0 = some 0 := rfl
theorem zb_Z1 : zb_Z 1 = some 1 := rfl
theorem zd_join {N : mm_T} (hR : zk_R N) {q : Nat} (hq : q < 52) (X : Int64) (Y : Int32) : ∃ c : Bool, ff_R_join 24 (nI q) X Y N = some (zb_B c, zd_J X Y q N) ∧ (c = false ↔ (mm_J N 25 q ||| X = mm_J N 25 q ∧ mm_I N 26 q ||| Y = mm_I N 26 q)) := by
  have e24 : (mm_k N 24).1 = 8 := by rw [hR.1]
  have f24 : ∀ v, (mm_k (mm_sJ N 25 q v) 24).1 = 8 := fun v => e24
  have g26 : ∀ v, mm_k (mm_sJ N 25 q v) 26 = (20, 52) := fun v => hR.2.2.2.1
  unfold ff_R_join
  simp only [zq_gd e24, zg_R e24, zg_R (f24 _), Option.bind_some, hR.2.1.1, hR.2.1.2.1, zm_RJ, zd_atL hR.2.2.1 hq (by omega), zd_at hR.2.2.2.1 hq (by omega), zd_putL hR.2.2.1 hq (by omega), zd_put (g26 _) hq (by omega), zq_jp, zb_Z0, zb_Z1, zd_cmp, zm_IJ]
  by_cases c1 : mm_J N 25 q ||| X = mm_J N 25 q
  · rw [if_pos c1]
    by_cases c2 : mm_I N 26 q ||| Y = mm_I N 26 q
    · rw [if_pos c2]
      exact ⟨false, rfl, by simp [c1, c2]⟩
    · rw [if_neg c2]
      exact ⟨true, rfl, by simp [c2]⟩
  · rw [if_neg c1]
    exact ⟨true, rfl, by simp [c1]⟩
theorem zd_Jsame {N : mm_T} {q : Nat} {X : Int64} {Y : Int32} (h : mm_J N 25 q ||| X = mm_J N 25 q) (h2 : mm_I N 26 q ||| Y = mm_I N 26 q) : zd_J X Y q N = N := by
  unfold zd_J
  rw [h, zm_sameJ, h2, zm_same]
theorem zd_J25 (X : Int64) (Y : Int32) (q : Nat) (N : mm_T) (p : Nat) : mm_J (zd_J X Y q N) 25 p = if p = q then mm_J N 25 q ||| X else mm_J N 25 p := by
  unfold zd_J
  rw [zm_JI, zm_JJ]
  simp
theorem zd_I26 (X : Int64) (Y : Int32) (q : Nat) (N : mm_T) (p : Nat) : mm_I (zd_J X Y q N) 26 p = if p = q then mm_I N 26 q ||| Y else mm_I N 26 p := by
  unfold zd_J
  rw [zm_II]
  simp only [true_and, zm_IJ]
theorem zd_Jbit {X : Int64} {Y : Int32} {q : Nat} {N : mm_T} {x : Nat} (h : zd_bit N x = true) : zd_bit (zd_J X Y q N) x = true := by
  unfold zd_bit at *
  split
  · rename_i c
    rw [if_pos c] at h
    rw [zd_J25]
    split
    · rename_i c2
      rw [zl_or, ← c2, h]; rfl
    · exact h
  · rename_i c
    rw [if_neg c] at h
    rw [zd_I26]
    split
    · rename_i c2
      rw [b_or, ← c2, h]; rfl
    · exact h
theorem zd_Jle (X : Int64) (Y : Int32) (q : Nat) (N : mm_T) : zd_mu (zd_J X Y q N) ≤ zd_mu N := by
  refine fb_ct_sub (fun k _ hk => ?_)
  cases e : zd_bit N k with
  | false => rfl
  | true => rw [zd_Jbit e] at hk; cases hk
theorem zd_Jlt {X : Int64} {Y : Int32} {q : Nat} {N : mm_T} (hq : q < 52) (h : ¬ (mm_J N 25 q ||| X = mm_J N 25 q ∧ mm_I N 26 q ||| Y = mm_I N 26 q)) : zd_mu (zd_J X Y q N) < zd_mu N := by
  have key : ∃ x, x < 4992 ∧ zd_bit N x = false ∧ zd_bit (zd_J X Y q N) x = true := by
    by_cases c : mm_J N 25 q ||| X = mm_J N 25 q
    · have c2 : ¬ mm_I N 26 q ||| Y = mm_I N 26 q := fun h2 => h ⟨c, h2⟩
      have : ∃ i, i < 32 ∧ ¬ bt (mm_I N 26 q ||| Y) i = bt (mm_I N 26 q) i := by
        refine Classical.byContradiction fun hn => c2 (b_ext fun i hi => ?_)
        exact Classical.byContradiction fun h3 => hn ⟨i, hi, h3⟩
      obtain ⟨i, hi, h3⟩ := this
      have e1 : (q * 96 + (64 + i)) / 96 = q := by omega
      have e2 : (q * 96 + (64 + i)) % 96 = 64 + i := by omega
      refine ⟨q * 96 + (64 + i), by omega, ?_, ?_⟩
      · unfold zd_bit
        rw [e1, e2, if_neg (by omega), Nat.add_sub_cancel_left]
        rw [b_or] at h3
        cases e : bt (mm_I N 26 q) i with
        | false => rfl
        | true => rw [e] at h3; simp at h3
      · unfold zd_bit
        rw [e1, e2, if_neg (by omega), Nat.add_sub_cancel_left, zd_I26, if_pos rfl]
        rw [b_or] at h3 ⊢
        cases e : bt (mm_I N 26 q) i with
        | false => rw [e] at h3; simpa using h3
        | true => rw [e] at h3; simp at h3
    · have : ∃ i, i < 64 ∧ ¬ bl (mm_J N 25 q ||| X) i = bl (mm_J N 25 q) i := by
        refine Classical.byContradiction fun hn => c (zl_ext fun i hi => ?_)
        exact Classical.byContradiction fun h3 => hn ⟨i, hi, h3⟩
      obtain ⟨i, hi, h3⟩ := this
      have e1 : (q * 96 + i) / 96 = q := by omega
      have e2 : (q * 96 + i) % 96 = i := by omega
      refine ⟨q * 96 + i, by omega, ?_, ?_⟩
      · unfold zd_bit
        rw [e1, e2, if_pos hi]
        rw [zl_or] at h3
        cases e : bl (mm_J N 25 q) i with
        | false => rfl
        | true => rw [e] at h3; simp at h3
      · unfold zd_bit
        rw [e1, e2, if_pos hi, zd_J25, if_pos rfl]
        rw [zl_or] at h3 ⊢
        cases e : bl (mm_J N 25 q) i with
        | false => rw [e] at h3; simpa using h3
        | true => rw [e] at h3; simp at h3
  obtain ⟨x, h1, h2, h3⟩ := key
  refine zs_ctlt (fun k _ hk => ?_) h1 (by rw [h3]; rfl) (by rw [h2]; rfl)
  cases e : zd_bit N k with
  | false => rfl
  | true => rw [zd_Jbit e] at hk; cases hk
/-- what leaves a point is so at its successors -/
theorem zd_Xok {M N : mm_T} {P : zp_T} (hV : zp_V P) (hI : zd_Inv M P N) {p q : Nat} (hs : zp_sc P p q) {d : Nat} (hd : d < 64) (h : bl (zd_X N P p) d = true) : zp_RD P d q := by
  have hp52 := zp_pt_lt hV hs.1
  unfold zd_X at h
  cases e : zp_df P p with
  | none =>
    rw [e] at h
    have h1 := hI.2.2.1 p hp52 d hd h
    exact ⟨h1.1, h1.2.1, zs_go h1.2.2 ⟨hs, by rw [e]; exact fun q => h1.2.1 q.symm⟩⟩
  | some t =>
    rw [e] at h
    simp only at h
    have ht := zp_df_lt hV hs.1 e
    have hp : p < zp_ni P := by
      rcases hs.1 with q | q
      · exact q
      · unfold zp_df at e; rw [if_neg (by omega)] at e; cases e
    have hni := hV.2.2.1
    rw [zl_or, zl_and, zl_not _ hd, hI.2.1 t ht d hd, zl_one p (by omega)] at h
    by_cases c : d = p
    · subst c
      exact ⟨hp, by rw [e]; simp, zs_in hs⟩
    · simp only [c, decide_false, Bool.or_false, Bool.and_eq_true] at h
      have h1 := hI.2.2.1 p hp52 d hd h.1
      refine ⟨h1.1, h1.2.1, zs_go h1.2.2 ⟨hs, fun q => ?_⟩⟩
      have h2 := h.2
      rw [← q, e] at h2
      simp [h1.1] at h2
theorem zd_Yok {M N : mm_T} {P : zp_T} (hV : zp_V P) (hI : zd_Inv M P N) {p q : Nat} (hs : zp_sc P p q) {v : Nat} (hv : v < 32) (h : bt (zd_Y N P p) v = true) : zp_RI P v q := by
  have hp52 := zp_pt_lt hV hs.1
  unfold zd_Y at h
  cases e : zp_df P p with
  | none =>
    rw [e] at h
    have h1 := hI.2.2.2.1 p hp52 v hv h
    exact ⟨h1.1, zs_go h1.2 ⟨hs, by rw [e]; simp⟩⟩
  | some t =>
    rw [e] at h
    simp only at h
    have ht := zp_df_lt hV hs.1 e
    rw [b_and, zb_not _ hv, zb_one t (by omega)] at h
    simp only [Bool.and_eq_true, Bool.not_eq_true', decide_eq_false_iff_not] at h
    have h1 := hI.2.2.2.1 p hp52 v hv h.1
    exact ⟨h1.1, zs_go h1.2 ⟨hs, by rw [e]; exact fun q => h.2 (Option.some.inj q).symm⟩⟩
theorem zd_InvJ {M N : mm_T} {P : zp_T} (hI : zd_Inv M P N) {X : Int64} {Y : Int32} {q : Nat} (hX : ∀ d, d < 64 → bl X d = true → zp_RD P d q) (hY : ∀ v, v < 32 → bt Y v = true → zp_RI P v q) : zd_Inv M P (zd_J X Y q N) := by
  obtain ⟨h1, h2, h3, h4, h5⟩ := hI
  refine ⟨zf_tr h1 (zf_tr (zf_J (by unfold zd_A; omega) _ _) (zf_I (by unfold zd_A; omega) _ _)), fun v hv d hd => ?_, fun p hp d hd h => ?_, fun p hp v hv h => ?_, fun v hv => ?_⟩
  · have : mm_J (zd_J X Y q N) 27 v = mm_J N 27 v := by
      unfold zd_J
      rw [zm_JI, zm_JJ, if_neg (by omega)]
    rw [this]
    exact h2 v hv d hd
  · rw [zd_J25] at h
    split at h
    · rename_i c
      subst c
      rw [zl_or, Bool.or_eq_true] at h
      rcases h with h | h
      · exact h3 p hp d hd h
      · exact hX d hd h
    · exact h3 p hp d hd h
  · rw [zd_I26] at h
    split at h
    · rename_i c
      subst c
      rw [b_or, Bool.or_eq_true] at h
      rcases h with h | h
      · exact h4 p hp v hv h
      · exact hY v hv h
    · exact h4 p hp v hv h
  · rw [zd_I26]
    split
    · rename_i c
      rw [b_or, ← c, h5 v hv]; rfl
    · exact h5 v hv
theorem zd_flow {M N : mm_T} {P : zp_T} (hR : zk_R M) (hP : zo_P M 45) (hH : zo_H M 45 P) (hV : zp_V P) (hI : zd_Inv M P N) {p : Nat} (hp : zp_pt P p) : ∃ (c : Bool) (N' : mm_T), ff_R_flow 24 45 (nI p) N = some (zb_B c, N') ∧ zd_Inv M P N' ∧ (c = true → zd_mu N' < zd_mu N) ∧ (c = false → N' = N ∧ zd_St P p N) := by
  have hp52 := zp_pt_lt hV hp
  have keep : ∀ {N}, zd_Inv M P N → zk_R N ∧ zo_P N 45 ∧ zo_H N 45 P := fun {N} h => ⟨hR.keep h.1, hP.keep h.1, hH.keep (fun a q1 q2 k => zf_i h.1 (by unfold zd_A; omega) k)⟩
  obtain ⟨hR1, hP1, hH1⟩ := keep hI
  have run : ∀ N1, zd_Inv M P N1 → N1 = N → zh_H (lf_R_flow_69 24 45 (nI p) (zd_X N P p) (zd_Y N P p) fu_L 0 0 N1) (fun y => ∃ (c : Bool) (N' : mm_T), y = (zb_B c, N') ∧ zd_Inv M P N' ∧ (c = true → zd_mu N' < zd_mu N) ∧ (c = false → N' = N ∧ zd_St P p N)) := by
    intro N1 hI1 hN1
    refine zh_up (F := fun fu i (s : Int32 × mm_T) => lf_R_flow_69 24 45 (nI p) (zd_X N P p) (zd_Y N P p) fu s.1 i s.2) (zp_nc P p) (fun i s => ∃ c : Bool, s.1 = zb_B c ∧ zd_Inv M P s.2 ∧ zd_mu s.2 ≤ zd_mu N ∧ (c = true → zd_mu s.2 < zd_mu N) ∧ (c = false → s.2 = N ∧ ∀ k, k < i → mm_J N 25 (zp_nx P p k) ||| zd_X N P p = mm_J N 25 (zp_nx P p k) ∧ mm_I N 26 (zp_nx P p k) ||| zd_Y N P p = mm_I N 26 (zp_nx P p k))) ?_ ?_ fu_L 0 (0, N1) (Nat.zero_le _) (by rw [zs_fuel]; have := zp_nc_le hV hp; omega) ⟨false, rfl, hI1, by rw [hN1]; exact Nat.le_refl _, (by intro h; cases h), fun _ => ⟨hN1, fun k hk => absurd hk (Nat.not_lt_zero _)⟩⟩
    · intro fu i s hi ⟨c, hs1, hs2, hs3, hs4, hs5⟩ k
      obtain ⟨q7, N2⟩ := s
      simp only at hs1 hs2 hs3 hs4 hs5
      obtain ⟨hR2, hP2, hH2⟩ := keep hs2
      show zh_H (lb_R_flow_69 24 45 (nI p) (zd_X N P p) (zd_Y N P p) (lf_R_flow_69 24 45 (nI p) (zd_X N P p) (zd_Y N P p) fu) q7 (nI i) N2) _
      unfold lb_R_flow_69
      have hnc := zp_nc_le hV hp
      have hsc : zp_sc P p (zp_nx P p i) := ⟨hp, i, hi, rfl⟩
      have hq := zp_pt_lt hV (zp_sc_pt hV hsc)
      rw [zr_nextCount hP2 hH2 hV hp, Option.bind_some, if_neg (nI_ge hi (by omega)), zr_nextPoint hP2 hH2 hV hp hi, Option.bind_some]
      obtain ⟨b, e, hb⟩ := zd_join hR2 hq (zd_X N P p) (zd_Y N P p)
      refine zh_at2 e ?_
      rw [zq_jp]
      have hInv := zd_InvJ (q := zp_nx P p i) hs2 (fun d hd h => zd_Xok hV hI hsc hd h) (fun v hv h => zd_Yok hV hI hsc hv h)
      cases b with
      | true =>
        rw [if_neg (by decide)]
        simp only [Option.bind_some, nI_1]
        refine k (1, _) ⟨true, rfl, hInv, Nat.le_trans (zd_Jle _ _ _ _) hs3, fun _ => ?_, by intro h; cases h⟩
        refine Nat.lt_of_lt_of_le (zd_Jlt hq (fun h => ?_)) hs3
        have := hb.mpr h
        cases this
      | false =>
        rw [if_pos (by decide)]
        simp only [Option.bind_some, nI_1]
        have hb2 := hb.mp rfl
        rw [zd_Jsame hb2.1 hb2.2]
        refine k (q7, N2) ⟨c, hs1, hs2, hs3, hs4, fun hc => ?_⟩
        obtain ⟨a1, a2⟩ := hs5 hc
        refine ⟨a1, fun j hj => ?_⟩
        rcases Nat.lt_or_ge j i with c2 | c2
        · exact a2 j c2
        · rw [show j = i by omega, ← a1]; rw [a1] at hb2; rw [a1]; exact hb2
    · intro fu s ⟨c, hs1, hs2, hs3, hs4, hs5⟩
      obtain ⟨q7, N2⟩ := s
      simp only at hs1 hs2 hs3 hs4 hs5
      obtain ⟨hR2, hP2, hH2⟩ := keep hs2
      show zh_H (lb_R_flow_69 24 45 (nI p) (zd_X N P p) (zd_Y N P p) (lf_R_flow_69 24 45 (nI p) (zd_X N P p) (zd_Y N P p) fu) q7 (nI (zp_nc P p)) N2) _
      unfold lb_R_flow_69
      have hnc := zp_nc_le hV hp
      rw [zr_nextCount hP2 hH2 hV hp, Option.bind_some, if_pos (nI_le (Nat.le_refl _) (by omega)), hs1, zb_Zok, Option.bind_some]
      exact zh_some ⟨c, N2, rfl, hs2, hs4, fun hc => ⟨(hs5 hc).1, fun _ k hk => (hs5 hc).2 k hk⟩⟩
  have goal : zh_H (ff_R_flow 24 45 (nI p) N) (fun y => ∃ (c : Bool) (N' : mm_T), y = (zb_B c, N') ∧ zd_Inv M P N' ∧ (c = true → zd_mu N' < zd_mu N) ∧ (c = false → N' = N ∧ zd_St P p N)) := by
    unfold ff_R_flow
    rw [zq_gd (by rw [hR1.1]), zg_R (by rw [hR1.1]), Option.bind_some, hR1.2.1.1, zd_atL hR1.2.2.1 hp52 (by omega), Option.bind_some, zg_R (by rw [hR1.1]), Option.bind_some, hR1.2.1.2.1, zd_at hR1.2.2.2.1 hp52 (by omega), Option.bind_some, zr_definedAt hP1 hH1 hV hp, Option.bind_some, zq_jp]
    have r := run N hI rfl
    unfold zd_X zd_Y at r
    cases e : zp_df P p with
    | none =>
      rw [e] at r
      rw [if_pos zo_none]
      exact r
    | some t =>
      rw [e] at r
      have ht := zp_df_lt hV hp e
      rw [zo_some, if_neg (zi_n1 (by omega)), zg_R (by rw [hR1.1]), Option.bind_some, hR1.2.1.2.2, zd_atL hR1.2.2.2.2 ht (by omega), Option.bind_some, Option.bind_some, Option.bind_some]
      exact r
  obtain ⟨y, e, c, N', rfl, h⟩ := goal
  exact ⟨c, N', e, h⟩
theorem zd_all {M N : mm_T} {P : zp_T} (hV : zp_V P) (hI : zd_Inv M P N) (hS : ∀ p, p < 52 → zd_St P p N) : zd_R N P := by
  have hX : ∀ p q, zp_sc P p q → ∀ d, d < 64 → bl (zd_X N P p) d = true → bl (mm_J N 25 q) d = true := by
    intro p q ⟨hp, k, hk, e⟩ d hd h
    have h1 := (hS p (zp_pt_lt hV hp) hp k hk).1
    rw [e, ← h1, zl_or, h, Bool.or_true]
  have hY : ∀ p q, zp_sc P p q → ∀ v, v < 32 → bt (zd_Y N P p) v = true → bt (mm_I N 26 q) v = true := by
    intro p q ⟨hp, k, hk, e⟩ d hd h
    have h1 := (hS p (zp_pt_lt hV hp) hp k hk).2
    rw [e, ← h1, b_or, h, Bool.or_true]
  have hni := hV.2.2.1
  refine ⟨fun p hp d hd => ⟨hI.2.2.1 p hp d hd, fun h => ?_⟩, fun p hp v hv => ⟨hI.2.2.2.1 p hp v hv, fun h => ?_⟩, hI.2.1⟩
  · obtain ⟨h1, h2, h3⟩ := h
    refine zs_ind (S := fun p => bl (mm_J N 25 p) d = true) (fun q hq => ?_) (fun x q _ hx hq => ?_) h3
    · refine hX d q hq d hd ?_
      unfold zd_X
      cases e : zp_df P d with
      | none => exact absurd e h2
      | some t => simp only; rw [zl_or, zl_one d (by omega)]; simp
    · refine hX x q hq.1 d hd ?_
      unfold zd_X
      cases e : zp_df P x with
      | none => exact hx
      | some t =>
        have ht := zp_df_lt hV hq.1.1 e
        simp only
        rw [zl_or, zl_and, hx, zl_not _ hd, hI.2.1 t ht d hd]
        have : ¬ zp_df P d = some t := fun q2 => hq.2 (by rw [e, q2])
        simp [this]
  · obtain ⟨h1, h2⟩ := h
    refine zs_ind (S := fun p => bt (mm_I N 26 p) v = true) (fun q hq => ?_) (fun x q _ hx hq => ?_) h2
    · rw [hq]; exact hI.2.2.2.2 v h1
    · refine hY x q hq.1 v hv ?_
      unfold zd_Y
      cases e : zp_df P x with
      | none => exact hx
      | some t =>
        have ht := zp_df_lt hV hq.1.1 e
        simp only
        rw [b_and, hx, zb_not _ hv, zb_one t (by omega)]
        have : ¬ v = t := fun q2 => hq.2 (by rw [e, q2])
        simp [this]
theorem zd_analyse {M : mm_T} {P : zp_T} (hR : zk_R M) (hP : zo_P M 45) (hH : zo_H M 45 P) (hV : zp_V P) : ∃ M', ff_R_analyse 24 45 M = some M' ∧ zf_F M M' zd_A ∧ zd_R M' P ∧ mm_I M' 24 0 = 1 := by
  unfold ff_R_analyse
  rw [zq_gd (by rw [hR.1]), zg_R (by rw [hR.1]), Option.bind_some, hR.2.1.1]
  obtain ⟨M1, e1, f1, g1, r1⟩ := zf_fillJ hR.2.2.1 (by omega) 0
  rw [e1, Option.bind_some]
  have hR1 := hR.keep f1
  rw [zg_R (by rw [hR1.1]), Option.bind_some, hR1.2.1.2.1]
  obtain ⟨M2, e2, f2, g2, r2⟩ := zf_fillI hR1.2.2.2.1 (by omega) 0
  rw [e2, Option.bind_some]
  have f12 : zf_F M M2 zd_A := zf_tr (zf_mono f1 (fun a h => by unfold zd_A; omega)) (zf_mono f2 (fun a h => by unfold zd_A; omega))
  have hR2 := hR.keep f12
  have hP2 := hP.keep f12
  have hH2 : zo_H M2 45 P := hH.keep (fun a q1 q2 k => zf_i f12 (by unfold zd_A; omega) k)
  obtain ⟨M3, e3, f3, o3⟩ := zd_collect hR2 hP2 hH2 hV
  rw [e3, Option.bind_some]
  have f13 : zf_F M M3 zd_A := zf_tr f12 (zf_mono f3 (fun a h => by unfold zd_A; omega))
  have hR3 := hR.keep f13
  have hP3 := hP.keep f13
  have hH3 : zo_H M3 45 P := hH.keep (fun a q1 q2 k => zf_i f13 (by unfold zd_A; omega) k)
  have hb0 : 0 < zp_nb P := hV.1
  have hfp := zp_pt_lt hV (zp_fp_pt hV hb0)
  rw [zg_R (by rw [hR3.1]), Option.bind_some, hR3.2.1.2.1, show (0 : Int32) = nI 0 from rfl, zr_firstPoint hP3 hH3 hV hb0, Option.bind_some, zd_put hR3.2.2.2.1 hfp (by omega), Option.bind_some]
  have hI4 : zd_Inv M P (mm_sI M3 26 (zp_fp P 0) 255) := by
    have z25 : ∀ p, p < 52 → mm_J (mm_sI M3 26 (zp_fp P 0) 255) 25 p = 0 := fun p hp => by
      rw [zm_JI, zf_j f3 (by omega), zf_j f2 (by omega), r1 p, if_pos hp]
    have z26 : ∀ p, p < 52 → mm_I (mm_sI M3 26 (zp_fp P 0) 255) 26 p = if p = zp_fp P 0 then 255 else 0 := fun p hp => by
      rw [zm_II, zf_i f3 (by omega), r2 p, if_pos hp]
      simp
    refine ⟨zf_tr f13 (zf_I (by unfold zd_A; omega) _ _), fun v hv d hd => ?_, fun p hp d hd h => ?_, fun p hp v hv h => ?_, fun v hv => ?_⟩
    · rw [zm_JI]; exact o3 v hv d hd
    · rw [z25 p hp, zl_0] at h; cases h
    · rw [z26 p hp] at h
      split at h
      · rename_i c
        rw [b_255] at h
        exact ⟨by simpa using h, zs_in c⟩
      · rw [b_0] at h; cases h
    · rw [z26 _ hfp, if_pos rfl, b_255]; simp [hv]
  have keep : ∀ {N}, zd_Inv M P N → zk_R N ∧ zo_P N 45 ∧ zo_H N 45 P := fun {N} h => ⟨hR.keep h.1, hP.keep h.1, hH.keep (fun a q1 q2 k => zf_i h.1 (by unfold zd_A; omega) k)⟩
  refine zs_fix (Fin := fun r cont fu q i N => lf_R_analyse_55 cont 24 45 (nI r) fu q (nI i) N) (Fout := fun fu q r N => lf_R_analyse_40 (fun (M8 : mm_T) => (pf_Z M8 24 8 0 (1 : Int32)).bind fun M9 => some M9) 24 45 fu q (nI r) N) (k0 := fun (M8 : mm_T) => (pf_Z M8 24 8 0 (1 : Int32)).bind fun M9 => some M9) (Q := fun M' => zf_F M M' zd_A ∧ zd_R M' P ∧ mm_I M' 24 0 = 1) 52 4992 (zd_Inv M P) (zd_St P) zd_mu (fun i N c N' => zd_Inv M P N' ∧ (c = true → zd_mu N' < zd_mu N) ∧ (c = false → N' = N ∧ zd_St P i N)) ?_ ?_ ?_ ?_ ?_ (by rw [zs_fuel]; omega) (by omega) ?_ fu_L 0 _ hI4 (by rw [Nat.zero_add]; exact fb_ct_le _ _) (by rw [zs_fuel]; omega)
  · intro r cont fu q i N hi hI k
    obtain ⟨hR', hP', hH'⟩ := keep hI
    show zh_H (lb_R_analyse_55 cont 24 45 (nI r) (lf_R_analyse_55 cont 24 45 (nI r) fu) q (nI i) N) _
    unfold lb_R_analyse_55
    rw [if_neg (show ¬ (52 : Int32) ≤ nI i from nI_ge (b := 52) hi (by omega)), zr_hasPoint hP' hH' hV hi, Option.bind_some, zq_jp]
    cases e : zp_ptb P i with
    | false =>
      rw [if_pos zb_f]
      simp only [Option.bind_some, nI_1]
      refine k false N ⟨hI, (by intro h; cases h), fun _ => ⟨rfl, fun hp => ?_⟩⟩
      rw [← zp_ptb_iff, e] at hp
      cases hp
    | true =>
      rw [if_neg (by decide)]
      obtain ⟨c, N', e2, h1, h2, h3⟩ := zd_flow hR hP hH hV hI (zp_ptb_iff.mp e)
      refine zh_at2 e2 ?_
      cases c with
      | true =>
        rw [if_neg (by decide)]
        simp only [Option.bind_some, nI_1]
        exact k true N' ⟨h1, h2, h3⟩
      | false =>
        rw [if_pos (by decide)]
        simp only [Option.bind_some, nI_1]
        exact k false N' ⟨h1, h2, h3⟩
  · intro r cont fu q N
    show lb_R_analyse_55 cont 24 45 (nI r) (lf_R_analyse_55 cont 24 45 (nI r) fu) q (nI 52) N = _
    unfold lb_R_analyse_55
    rw [if_pos (show (52 : Int32) ≤ nI 52 from nI_le (a := 52) (Nat.le_refl _) (by omega))]
  · intro i N c N' hi hI ⟨h1, h2, h3⟩
    refine ⟨h1, h2, fun hc => ?_⟩
    obtain ⟨rfl, h4⟩ := h3 hc
    exact ⟨Nat.le_refl _, h4, fun j _ h => h⟩
  · intro fu r N
    show lb_R_analyse_40 _ 24 45 _ 0 (nI r) N = _
    unfold lb_R_analyse_40
    rw [if_pos rfl]
  · intro fu r N hr
    show lb_R_analyse_40 _ 24 45 _ 1 (nI r) N = _
    unfold lb_R_analyse_40
    rw [if_neg (by decide), if_neg (show ¬ (100000 : Int32) ≤ nI r from nI_ge (b := 100000) hr (by omega))]
    simp only [Option.bind_some, nI_1]
    rfl
  · intro N hI hS
    obtain ⟨hR', hP', hH'⟩ := keep hI
    rw [zp_Z1 (by rw [hR'.1]), Option.bind_some]
    refine zh_some ⟨zf_tr hI.1 (zf_I (by unfold zd_A; omega) _ _), ?_, by rw [zm_II, if_pos ⟨rfl, rfl⟩]⟩
    obtain ⟨a1, a2, a3⟩ := zd_all hV hI hS
    refine ⟨fun p hp d hd => ?_, fun p hp v hv => ?_, fun v hv d hd => ?_⟩
    · rw [zm_JI]; exact a1 p hp d hd
    · rw [zm_II, if_neg (by omega)]; exact a2 p hp v hv
    · rw [zm_JI]; exact a3 v hv d hd
