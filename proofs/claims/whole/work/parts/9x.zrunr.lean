/-! ===== the reference's machine ===== -/
def zj_B (a : Nat) : Prop := a = 52 ∨ a = 59
/-- what a run of the reference writes -/
def zj_F (M M' : mm_T) : Prop := zf_F M M' zj_B ∧ ∀ k, k < 10 ∨ 13 < k → mm_I M' 52 k = mm_I M 52 k
theorem zj_F_rfl (M : mm_T) : zj_F M M := ⟨zf_rfl _ _, fun _ _ => rfl⟩
theorem zj_F_tr {M M1 M2 : mm_T} (h : zj_F M M1) (h2 : zj_F M1 M2) : zj_F M M2 := ⟨zf_tr h.1 h2.1, fun k hk => (h2.2 k hk).trans (h.2 k hk)⟩
theorem zj_F_52 (M : mm_T) {k : Nat} (v : Int32) (h1 : 10 ≤ k) (h2 : k ≤ 13) : zj_F M (mm_sI M 52 k v) := ⟨zf_I (Or.inl rfl) _ _, fun j hj => by rw [zm_II, if_neg (by omega)]⟩
theorem zj_F_59 (M : mm_T) (k : Nat) (v : Int32) : zj_F M (mm_sI M 59 k v) := ⟨zf_I (Or.inr rfl) _ _, fun j hj => by rw [zm_II, if_neg (by omega)]⟩
theorem zt_S.keepJ {M M' : mm_T} {o : Nat} {P : zp_T} (h : zt_S M o P) (f : zj_F M M') : zt_S M' o P := h.keep f.1 (f.2 2 (by omega)) (fun k => zf_i f.1 (by unfold zj_B; omega) k)
theorem zt_r59 {M : mm_T} (h : zt_R M) : mm_R M 52 9 = 59 ∧ mm_k M 59 = (20, 8) := ⟨h.2.1.2.2.2.2.2.2.1, h.2.2.2.2.2.2.2.2.1⟩
/-- the reference stands at s, at place k of block b -/
def zj_M (M : mm_T) (P : zp_T) (s : zj_T) (b k : Nat) : Prop := (b < zp_nb P ∧ zp_st P b ≤ k ∧ k ≤ zp_st P (b + 1) ∧ zp_pl P b k = zj_p s) ∧ mm_I M 52 10 = nI b ∧ mm_I M 52 11 = nI k ∧ (∀ v, v < 8 → mm_I M 59 v = nI (zj_v s v)) ∧ mm_I M 52 12 = zo_N (zj_s s) ∧ mm_I M 52 13 = zb_B (zj_o s)
section ZRX
variable {M : mm_T} {o : Nat} {P : zp_T}
theorem zt_calcN (h : zt_S M o P) {op a b : Nat} (ho : op ≤ 2) (ha : a < 1000) (hb : b < 1000) : ff_M_calculates 52 (nI a) (nI op) (nI b) M = some (nI (zc_op op a b)) := by
  rw [zt_calc h ho (Or.inr (Or.inr ⟨a, ha, rfl⟩)) (Or.inr (Or.inr ⟨b, hb, rfl⟩))]
  unfold zc_cal
  have z1 : (0 : Int32) ≤ nI a := nI_pos' (by omega)
  have z2 : (0 : Int32) ≤ nI b := nI_pos' (by omega)
  have t : ∀ n : Nat, n < 1000 → (nI n).toNatClampNeg = n := by decide +kernel
  rw [if_pos ⟨z1, z2⟩, t a ha, t b hb]
theorem zj_entersR (h : zt_S M o P) {y : Nat} (hy : y < zp_nb P) : ff_M_enters 52 (nI y) M = some (mm_sI (mm_sI M 52 10 (nI y)) 52 11 (nI (zp_st P y))) := by
  have h1 := h.keepJ (zj_F_52 M (k := 10) (nI y) (by omega) (by omega))
  unfold ff_M_enters
  rw [zq_gd (zt_e52 h), zp_I (zt_e52 h), Option.bind_some, zt_firstOf h1 (by omega), Option.bind_some, zp_I (zt_e52 h1), Option.bind_some]
theorem zj_beginsR (h : zt_S M o P) : ∃ M', ff_M_begins 52 M = some M' ∧ zj_F M M' ∧ zj_M M' P (zj_0 P) 0 0 := by
  have hV := h.2.2.2.2
  have aux : ∀ (k0 : mm_T → Option mm_T) (Q : mm_T → Prop), (∀ N, zj_F M N → (∀ v, v < 8 → mm_I N 59 v = 0) → zh_H (k0 N) Q) → zh_H (lf_M_begins_2 k0 52 fu_L 0 M) Q := by
    intro k0 Q hk
    refine zh_up (F := fun fu i N => lf_M_begins_2 k0 52 fu i N) 8 (fun i N => zj_F M N ∧ ∀ v, v < i → mm_I N 59 v = 0) ?_ ?_ fu_L 0 M (Nat.zero_le _) (by rw [zs_fuel]; omega) ⟨zj_F_rfl M, fun v hv => absurd hv (Nat.not_lt_zero _)⟩
    · intro fu i N hi ⟨g1, g2⟩ k
      have hS := h.keepJ g1
      show zh_H (lb_M_begins_2 k0 52 (lf_M_begins_2 k0 52 fu) (nI i) N) _
      unfold lb_M_begins_2
      rw [if_neg (show ¬ (8 : Int32) ≤ nI i from nI_ge (b := 8) hi (by omega)), zg_R (zt_e52 hS), Option.bind_some, (zt_r59 hS.1).1, zw_I (zt_r59 hS.1).2 hi (by omega), Option.bind_some, Option.bind_some, nI_1]
      refine k _ ⟨zj_F_tr g1 (zj_F_59 N i 0), fun v hv => ?_⟩
      rw [zm_II]
      by_cases c : v = i
      · rw [if_pos ⟨rfl, c⟩]
      · rw [if_neg (fun z => c z.2)]; exact g2 v (by omega)
    · intro fu N ⟨g1, g2⟩
      show zh_H (lb_M_begins_2 k0 52 (lf_M_begins_2 k0 52 fu) (nI 8) N) _
      unfold lb_M_begins_2
      rw [if_pos (show (8 : Int32) ≤ nI 8 from nI_le (a := 8) (Nat.le_refl _) (by omega))]
      exact hk N g1 g2
  suffices goal : zh_H (ff_M_begins 52 M) (fun M' => zj_F M M' ∧ zj_M M' P (zj_0 P) 0 0) from goal
  unfold ff_M_begins
  rw [zq_gd (zt_e52 h)]
  refine aux _ _ (fun N g1 g2 => ?_)
  have h0 := h.keepJ g1
  have f1 := zj_F_tr g1 (zj_F_52 N (k := 10) 0 (by omega) (by omega))
  have h1 := h.keepJ f1
  show zh_H ((pf_I N 52 11 10 0).bind _) _
  have ef : ff_M_firstOf 52 0 (mm_sI N 52 10 0) = some (nI (zp_st P 0)) := zt_firstOf (b := 0) h1 (by omega)
  rw [zp_I (zt_e52 h0), Option.bind_some, ef, Option.bind_some, zp_I (zt_e52 h1), Option.bind_some]
  have f2 := zj_F_tr f1 (zj_F_52 _ (k := 11) (nI (zp_st P 0)) (by omega) (by omega))
  have h2 := h.keepJ f2
  rw [zp_I (zt_e52 h2), Option.bind_some]
  have f3 := zj_F_tr f2 (zj_F_52 _ (k := 12) (-1) (by omega) (by omega))
  have h3 := h.keepJ f3
  rw [zp_Z0 (zt_e52 h3), Option.bind_some]
  have f4 := zj_F_tr f3 (zj_F_52 _ (k := 13) 0 (by omega) (by omega))
  refine zh_some ⟨f4, ⟨hV.1, by rw [hV.2.2.2.1]; exact Nat.le_refl _, by omega, ?_⟩, ?_, ?_, fun v hv => ?_, ?_, ?_⟩
  · show zp_pl P 0 0 = zp_fp P 0
    rw [zp_fp_pl, hV.2.2.2.1]
  · rw [zm_II, if_neg (by omega), zm_II, if_neg (by omega), zm_II, if_neg (by omega), zm_II, if_pos ⟨rfl, rfl⟩]
    rfl
  · rw [zm_II, if_neg (by omega), zm_II, if_neg (by omega), zm_II, if_pos ⟨rfl, rfl⟩, hV.2.2.2.1]
  · rw [zm_II, if_neg (by omega), zm_II, if_neg (by omega), zm_II, if_neg (by omega), zm_II, if_neg (by omega), g2 v hv]
    rfl
  · rw [zm_II, if_neg (by omega), zm_II, if_pos ⟨rfl, rfl⟩]
    rfl
  · rw [zm_II, if_pos ⟨rfl, rfl⟩]
    rfl
theorem zj_enterM (h : zt_S M o P) {y : Nat} (hy : y < zp_nb P) (v : Nat → Nat) (sh : Option Nat) (w : Nat → Bool) (e : Nat → Nat) (hv : ∀ x, x < 8 → mm_I M 59 x = nI (v x)) (h12 : mm_I M 52 12 = zo_N sh) : ∃ M', ff_M_enters 52 (nI y) (mm_sI M 52 13 0) = some M' ∧ zj_F M M' ∧ zj_M M' P (v, zp_fp P y, sh, false, w, e) y (zp_st P y) := by
  have f1 := zj_F_52 M (k := 13) 0 (by omega) (by omega)
  have h1 := h.keepJ f1
  have hV := h.2.2.2.2
  refine ⟨_, zj_entersR h1 hy, zj_F_tr f1 (zj_F_tr (zj_F_52 _ _ (by omega) (by omega)) (zj_F_52 _ _ (by omega) (by omega))), ⟨hy, Nat.le_refl _, hV.2.2.2.2.1 y hy, rfl⟩, ?_, ?_, fun x hx => ?_, ?_, ?_⟩
  · rw [zm_II, if_neg (by omega), zm_II, if_pos ⟨rfl, rfl⟩]
  · rw [zm_II, if_pos ⟨rfl, rfl⟩]
  · rw [zm_II, if_neg (by omega), zm_II, if_neg (by omega), zm_II, if_neg (by omega)]
    exact hv x hx
  · rw [zm_II, if_neg (by omega), zm_II, if_neg (by omega), zm_II, if_neg (by omega)]
    exact h12
  · rw [zm_II, if_neg (by omega), zm_II, if_neg (by omega), zm_II, if_pos ⟨rfl, rfl⟩]
    rfl
theorem zj_exitR (h : zt_S M o P) {s : zj_T} {b k : Nat} (hs : zj_M M P s b k) (hok : zj_ok P s) (hno : zj_o s = false) (c : k = zp_st P (b + 1)) : ∃ M' b' k', ff_M_steps 52 M = some M' ∧ zj_F M M' ∧ zj_M M' P (zj_step P s) b' k' ∧ ∀ x, zj_e (zj_step P s) x = zj_e s x + (if zj_o (zj_step P s) = false ∧ b' = x then 1 else 0) := by
  have hV := h.2.2.2.2
  have hnb := hV.2.1
  obtain ⟨⟨hb, hlo, hhi, hp⟩, e10, e11, e59, e12, e13⟩ := hs
  have e52 := zt_e52 h
  have hw2 := zp_w_le hV hb
  have ep : zj_p s = 40 + b := by rw [← hp, c]; unfold zp_pl; rw [if_neg (Nat.lt_irrefl _)]
  have en : ¬ zj_p s < 40 := by omega
  have eb : zj_p s - 40 = b := by omega
  unfold ff_M_steps
  simp only [zq_gd e52, zg_I e52, zg_R e52, Option.bind_some, e10, e11, zt_endOf h hb, zq_jp, zt_exit h hb, (zt_r59 h.1).1]
  rw [if_pos (by rw [c])]
  have f1 := fun v => zj_F_52 M (k := 13) v (by omega) (by omega)
  by_cases w0 : zp_w P b = 0
  · rw [w0, if_pos nI_0, zp_Z1 e52, Option.bind_some, if_neg (by decide), if_neg (by decide)]
    have es : zj_step P s = (zj_v s, zj_p s, zj_s s, true, zj_w s, zj_e s) := by unfold zj_step; rw [if_neg en, eb, if_pos w0]
    rw [es]
    refine ⟨_, b, k, rfl, f1 1, ⟨⟨hb, hlo, hhi, hp⟩, ?_, ?_, fun v hv => ?_, ?_, ?_⟩, fun x => ?_⟩
    · rw [zm_II, if_neg (by omega)]; exact e10
    · rw [zm_II, if_neg (by omega)]; exact e11
    · rw [zm_II, if_neg (by omega)]; exact e59 v hv
    · rw [zm_II, if_neg (by omega)]; exact e12
    · rw [zm_II, if_pos ⟨rfl, rfl⟩]; rfl
    · show zj_e s x = zj_e s x + (if true = false ∧ b = x then 1 else 0)
      rw [if_neg (fun z => Bool.noConfusion z.1)]
      exact (Nat.add_zero _).symm
  · have h7 := h.keepJ (f1 0)
    have e52' := zt_e52 h7
    have es : zj_step P s = (zj_v s, zp_fp P (zj_way P s b), zj_s s, false, zj_w s, fun x => zj_e s x + (if x = zj_way P s b then 1 else 0)) := by unfold zj_step; rw [if_neg en, eb, if_neg w0, hno]
    have go : ∀ y, y = zj_way P s b → y < zp_nb P → ∃ M' b' k', (ff_M_enters 52 (nI y) (mm_sI M 52 13 0)).bind (fun M9 => some M9) = some M' ∧ zj_F M M' ∧ zj_M M' P (zj_step P s) b' k' ∧ ∀ x, zj_e (zj_step P s) x = zj_e s x + (if zj_o (zj_step P s) = false ∧ b' = x then 1 else 0) := by
      intro y ey hy
      obtain ⟨M', q1, q2, q3⟩ := zj_enterM h hy (zj_v s) (zj_s s) (zj_w s) (fun x => zj_e s x + (if x = y then 1 else 0)) e59 e12
      rw [es, ← ey, q1, Option.bind_some]
      refine ⟨M', y, zp_st P y, rfl, q2, q3, fun x => ?_⟩
      show zj_e s x + (if x = y then 1 else 0) = zj_e s x + (if false = false ∧ y = x then 1 else 0)
      by_cases cx : x = y
      · rw [if_pos cx, if_pos ⟨rfl, cx.symm⟩]
      · rw [if_neg cx, if_neg (fun z => cx z.2.symm)]
    rw [if_neg (nI_ne0 (by omega) (by omega)), zp_Z0 e52, Option.bind_some]
    have r10 : mm_I (mm_sI M 52 13 0) 52 10 = nI b := by rw [zm_II, if_neg (by omega)]; exact e10
    simp only [zg_I e52', zg_R e52', Option.bind_some, r10, (zt_r59 h7.1).1]
    by_cases w1 : zp_w P b = 1
    · rw [if_pos (by rw [w1]; rfl), zt_f h7 hb (by omega), Option.bind_some]
      refine go (zp_f P b) ?_ ?_
      · unfold zj_way zp_way
        rw [if_neg (show ¬ (zp_w P b = 2 ∧ zj_v s (zp_x P b) = 0) from fun z => by omega), if_pos rfl]
      · have := zp_way_lt hV hb (k := 0) (by omega)
        unfold zp_way at this
        rw [if_pos rfl] at this
        exact this
    · have w2 : zp_w P b = 2 := by omega
      have hx := zp_x_lt hV hb w2
      have e59' : mm_I (mm_sI M 52 13 0) 59 (zp_x P b) = nI (zj_v s (zp_x P b)) := by rw [zm_II, if_neg (by omega)]; exact e59 _ hx
      have hvx := hok.1 _ hx
      rw [if_neg (show ¬ nI (zp_w P b) = (1 : Int32) by rw [w2]; decide), if_pos (by rw [w2]; rfl), zt_x h7 hb w2, Option.bind_some, za_I (zt_r59 h7.1).2 hx (by omega), Option.bind_some, e59']
      have el := (zj_way_lt hV (s := s) hb w0).2
      by_cases z : zj_v s (zp_x P b) = 0
      · have ew : ff_M_way 52 (nI b) 1 (mm_sI M 52 13 0) = some (nI (zp_way P b 1)) := zt_way (k := 1) h7 hb (by omega)
        rw [if_pos (show nI (zj_v s (zp_x P b)) = 0 by rw [z]; rfl), ew, Option.bind_some]
        have ey : zp_way P b 1 = zj_way P s b := by unfold zj_way; rw [if_pos ⟨w2, z⟩]
        exact go _ ey (by rw [ey]; exact el)
      · have ew : ff_M_way 52 (nI b) 0 (mm_sI M 52 13 0) = some (nI (zp_way P b 0)) := zt_way (k := 0) h7 hb (by omega)
        rw [if_neg (nI_ne0 (by omega) (by omega)), ew, Option.bind_some]
        have ey : zp_way P b 0 = zj_way P s b := by unfold zj_way; rw [if_neg (fun w => z w.2)]
        exact go _ ey (by rw [ey]; exact el)
theorem zj_instR (h : zt_S M o P) {s : zj_T} {b k : Nat} (hs : zj_M M P s b k) (hok : zj_ok P s) (c : k ≠ zp_st P (b + 1)) : ∃ M', ff_M_steps 52 M = some M' ∧ zj_F M M' ∧ zj_M M' P (zj_step P s) b (k + 1) ∧ zj_e (zj_step P s) = zj_e s ∧ zj_o (zj_step P s) = zj_o s := by
  have hV := h.2.2.2.2
  have hnb := hV.2.1
  have hni := hV.2.2.1
  obtain ⟨⟨hb, hlo, hhi, hp⟩, e10, e11, e59, e12, e13⟩ := hs
  have e52 := zt_e52 h
  have hse := zp_st_le hV (b := b + 1) (by omega)
  have hk : k < zp_st P (b + 1) := by omega
  have hi : k < zp_ni P := by omega
  have ep : zj_p s = k := by rw [← hp]; unfold zp_pl; rw [if_pos hk]
  have hq := hV.2.2.2.2.2.2.2 k hi
  have hk3 : zp_k P k ≤ 3 := hq.1
  have ht8 : zp_t P k < 8 := hq.2.1
  have enx : zp_nx P k 0 = zp_pl P b (k + 1) := by
    unfold zp_nx zp_pl
    rw [if_pos (by omega), zp_bk_eq hV hb hlo hk]
  have pl : b < zp_nb P ∧ zp_st P b ≤ k + 1 ∧ k + 1 ≤ zp_st P (b + 1) ∧ zp_pl P b (k + 1) = zp_nx P k 0 := ⟨hb, by omega, by omega, enx.symm⟩
  unfold ff_M_steps
  simp only [zq_gd e52, zg_I e52, zg_R e52, Option.bind_some, e10, e11, zt_endOf h hb, zq_jp, zt_k h hi, zt_t h hi, zt_l h hi, zt_o h hi, zt_r h hi, (zt_r59 h.1).1]
  rw [if_neg (fun z => c ((nI_eq (by omega) (by omega)).mp z))]
  have fin : ∀ (N : mm_T) (s' : zj_T), zj_F M N → mm_I N 52 10 = nI b → mm_I N 52 11 = nI k → (∀ v, v < 8 → mm_I N 59 v = nI (zj_v s' v)) → mm_I N 52 12 = zo_N (zj_s s') → mm_I N 52 13 = zb_B (zj_o s') → zj_p s' = zp_nx P k 0 → s' = zj_step P s → zj_e s' = zj_e s → zj_o s' = zj_o s → ∃ M', ((gf_I N 52 11 11).bind fun x6 => (pf_I N 52 11 11 (x6 + (1 : Int32))).bind fun M2 => some M2) = some M' ∧ zj_F M M' ∧ zj_M M' P (zj_step P s) b (k + 1) ∧ zj_e (zj_step P s) = zj_e s ∧ zj_o (zj_step P s) = zj_o s := by
    intro N s' f a1 a2 a3 a4 a5 a6 a7 a8 a9
    have hN := h.keepJ f
    subst a7
    refine ⟨mm_sI N 52 11 (nI (k + 1)), ?_, zj_F_tr f (zj_F_52 _ _ (by omega) (by omega)), ⟨by rw [a6]; exact pl, ?_, ?_, fun v hv => ?_, ?_, ?_⟩, a8, a9⟩
    · rw [zg_I (zt_e52 hN), Option.bind_some, a2, nI_1, zp_I (zt_e52 hN), Option.bind_some]
    · rw [zm_II, if_neg (by omega)]; exact a1
    · rw [zm_II, if_pos ⟨rfl, rfl⟩]
    · rw [zm_II, if_neg (by omega)]; exact a3 v hv
    · rw [zm_II, if_neg (by omega)]; exact a4
    · rw [zm_II, if_neg (by omega)]; exact a5
  have put : ∀ x, x = zj_res P s k → zp_k P k ≠ 3 → ∃ M', (aw_I M 59 (nI (zp_t P k)) (nI x)).bind (fun M5 => (gf_I M5 52 11 11).bind fun x6 => (pf_I M5 52 11 11 (x6 + (1 : Int32))).bind fun M2 => some M2) = some M' ∧ zj_F M M' ∧ zj_M M' P (zj_step P s) b (k + 1) ∧ zj_e (zj_step P s) = zj_e s ∧ zj_o (zj_step P s) = zj_o s := by
    intro x ex k3
    rw [zw_I (zt_r59 h.1).2 ht8 (by omega), Option.bind_some]
    refine fin _ (fun v => if v = zp_t P k then x else zj_v s v, zp_nx P k 0, zj_s s, zj_o s, fun v => zj_w s v || decide (v = zp_t P k), zj_e s) (zj_F_59 M _ _) ?_ ?_ (fun v hv => ?_) ?_ ?_ rfl ?_ rfl rfl
    · rw [zm_II, if_neg (by omega)]; exact e10
    · rw [zm_II, if_neg (by omega)]; exact e11
    · rw [zm_II]
      show _ = nI (if v = zp_t P k then x else zj_v s v)
      by_cases cv : v = zp_t P k
      · rw [if_pos ⟨rfl, cv⟩, if_pos cv]
      · rw [if_neg (fun z => cv z.2), if_neg cv]; exact e59 v hv
    · rw [zm_II, if_neg (by omega)]; exact e12
    · rw [zm_II, if_neg (by omega)]; exact e13
    · unfold zj_step
      rw [ep, if_pos (show k < 40 by omega), if_neg k3, ex]
  by_cases k3 : zp_k P k = 3
  · have hl : zp_l P k < 8 := hq.2.2.2.1 (by show zp_k P k ≠ 0; omega)
    rw [if_pos (by rw [k3]; rfl), za_I (zt_r59 h.1).2 hl (by omega), Option.bind_some, e59 _ hl, zp_I e52, Option.bind_some]
    refine fin _ (zj_v s, zp_nx P k 0, some (zj_v s (zp_l P k)), zj_o s, zj_w s, zj_e s) (zj_F_52 M _ (by omega) (by omega)) ?_ ?_ (fun v hv => ?_) ?_ ?_ rfl ?_ rfl rfl
    · rw [zm_II, if_neg (by omega)]; exact e10
    · rw [zm_II, if_neg (by omega)]; exact e11
    · rw [zm_II, if_neg (by omega)]; exact e59 v hv
    · rw [zm_II, if_pos ⟨rfl, rfl⟩]; rfl
    · rw [zm_II, if_neg (by omega)]; exact e13
    · unfold zj_step
      rw [ep, if_pos (show k < 40 by omega), if_pos k3]
  · rw [if_neg (show ¬ nI (zp_k P k) = (3 : Int32) from fun z => k3 ((nI_eq (b := 3) (by omega) (by omega)).mp z))]
    by_cases k0 : zp_k P k = 0
    · rw [if_pos (show nI (zp_k P k) = 0 by rw [k0]; rfl)]
      refine put (zp_l P k) ?_ k3
      unfold zj_res
      rw [if_pos k0]
    · have hl : zp_l P k < 8 := hq.2.2.2.1 k0
      have hr : zp_r P k < 8 := hq.2.2.2.2.2
      have ho2 : zp_o P k ≤ 2 := hq.2.2.2.2.1
      rw [if_neg (nI_ne0 (by omega) (by omega))]
      simp only [za_I (zt_r59 h.1).2 hl (by omega), Option.bind_some, e59 _ hl]
      by_cases k1 : zp_k P k = 1
      · rw [if_pos (by rw [k1]; rfl)]
        refine put (zj_v s (zp_l P k)) ?_ k3
        unfold zj_res
        rw [if_neg k0, if_pos k1]
      · rw [if_neg (show ¬ nI (zp_k P k) = (1 : Int32) from fun z => k1 ((nI_eq (b := 1) (by omega) (by omega)).mp z)), za_I (zt_r59 h.1).2 hr (by omega), Option.bind_some, e59 _ hr, zt_calcN h ho2 (hok.1 _ hl) (hok.1 _ hr), Option.bind_some]
        refine put (zc_op (zp_o P k) (zj_v s (zp_l P k)) (zj_v s (zp_r P k))) ?_ k3
        unfold zj_res
        rw [if_neg k0, if_neg k1]
end ZRX
