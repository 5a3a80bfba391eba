/-! ===== the class: Available ===== -/
def zp_xp (P : zp_T) (i : Nat) : Nat := zp_l P i + 8 * zp_r P i + 64 * zp_o P i
def zp_sx (P : zp_T) (i j : Nat) : Bool := decide (zp_k P j = 2) && decide (zp_xp P j = zp_xp P i)
/-- the first CALC with the expression of i -/
def zp_nm (P : zp_T) (i : Nat) : Nat := fa_first (zp_sx P i) (zp_ni P)
def zp_GN (P : zp_T) (p n : Nat) : Prop := p < zp_ni P ∧ zp_k P p = 2 ∧ zp_nm P p = n
/-- n names an expression that has v as an operand -/
def zp_NW (P : zp_T) (v n : Nat) : Prop := ∃ i, i < zp_ni P ∧ zp_k P i = 2 ∧ zp_nm P i = n ∧ (zp_l P i = v ∨ zp_r P i = v)
def zp_KL (P : zp_T) (p n : Nat) : Prop := ∃ v, zp_df P p = some v ∧ zp_NW P v n
def zp_OP (P : zp_T) (p : Nat) : Prop := zp_pt P p ∧ zp_RB P (zp_bp P p)
def zp_LK (P : zp_T) (n p : Nat) : Prop := zs_R (fun q => q = zp_fp P 0 ∨ ∃ p, zp_OP P p ∧ zp_sc P p q ∧ zp_KL P p n) (fun p q => zp_sc P p q ∧ ¬ zp_GN P p n) p
def zp_AL (P : zp_T) (n p : Nat) : Prop := zp_OP P p ∧ ¬ zp_LK P n p
theorem zp_nm_self {P : zp_T} {i : Nat} (hi : i < zp_ni P) (hk : zp_k P i = 2) : zp_nm P i ≤ i ∧ zp_k P (zp_nm P i) = 2 ∧ zp_xp P (zp_nm P i) = zp_xp P i := by
  have h1 : zp_sx P i i = true := by unfold zp_sx; simp [hk]
  have hle : zp_nm P i ≤ i := by
    rcases Nat.lt_or_ge i (zp_nm P i) with q | q
    · have := fa_first_no (zp_sx P i) (zp_ni P) i q
      rw [h1] at this; cases this
    · exact q
  have h2 := fa_first_yes (zp_sx P i) (zp_ni P) (by show zp_nm P i < zp_ni P; omega)
  have h2 : zp_sx P i (zp_nm P i) = true := h2
  unfold zp_sx at h2
  simp only [Bool.and_eq_true, decide_eq_true_eq] at h2
  exact ⟨hle, h2.1, h2.2⟩
theorem zp_bp_fp {P : zp_T} (hV : zp_V P) {b : Nat} (hb : b < zp_nb P) : zp_bp P (zp_fp P b) = b := by
  have h2 := hV.2.2.1
  unfold zp_fp
  split
  · rename_i c
    have := zp_st_le hV (b := b + 1) (by omega)
    unfold zp_bp
    rw [if_pos (by omega)]
    exact zp_bk_eq hV hb (Nat.le_refl _) c
  · unfold zp_bp
    rw [if_neg (by omega)]
    omega
theorem zp_bp_nx {P : zp_T} (hV : zp_V P) {p k : Nat} (hp : zp_pt P p) (hk : k < zp_nc P p) : zp_bp P (zp_nx P p k) = zp_bp P p ∨ (40 ≤ p ∧ zp_ed P (zp_bp P p) (zp_bp P (zp_nx P p k)) = true) := by
  have h2 := hV.2.2.1
  by_cases c : p < 40
  · left
    have hi : p < zp_ni P := by rcases hp with q | q <;> omega
    have hb := zp_bk_lt hV hi
    unfold zp_nx
    rw [if_pos c]
    have e : zp_bp P p = zp_bk P p := by unfold zp_bp; rw [if_pos c]
    rw [e]
    split
    · rename_i c2
      have := zp_st_le hV (b := zp_bk P p + 1) (by omega)
      unfold zp_bp
      rw [if_pos (by omega)]
      exact zp_bk_eq hV hb (by have := zp_bk_lo hV hi; omega) c2
    · unfold zp_bp
      rw [if_neg (by omega)]
      omega
  · right
    have hb : p - 40 < zp_nb P := by rcases hp with q | q <;> omega
    have e : zp_bp P p = p - 40 := by unfold zp_bp; rw [if_neg c]
    unfold zp_nc at hk
    rw [if_neg c] at hk
    unfold zp_nx
    rw [if_neg c, zp_bp_fp hV (zp_way_lt hV hb hk), e]
    exact ⟨by omega, (zp_ed_way hV).mpr ⟨hb, k, hk, rfl⟩⟩
theorem zp_OP_sc {P : zp_T} (hV : zp_V P) {p q : Nat} (h : zp_OP P p) (e : zp_sc P p q) : zp_OP P q := by
  refine ⟨zp_sc_pt hV e, ?_⟩
  obtain ⟨_, k, hk, rfl⟩ := e
  rcases zp_bp_nx hV h.1 hk with q | ⟨_, q⟩
  · rw [q]; exact h.2
  · exact zs_go h.2 q
theorem zp_OP_0 {P : zp_T} (hV : zp_V P) : zp_OP P (zp_fp P 0) := ⟨zp_fp_pt hV hV.1, by rw [zp_bp_fp hV hV.1]; exact zp_RB_0 P⟩
theorem zp_LK_OP {P : zp_T} (hV : zp_V P) {n p : Nat} (h : zp_LK P n p) : zp_OP P p := by
  refine zs_ind (S := zp_OP P) (fun q hq => ?_) (fun p q _ hp e => zp_OP_sc hV hp e.1) h
  rcases hq with rfl | ⟨p, h1, h2, _⟩
  · exact zp_OP_0 hV
  · exact zp_OP_sc hV h1 h2
/-- the Available object: 31, its rows 32, 33, 34 -/
def zk_A (M : mm_T) : Prop := mm_k M 31 = (0, 0) ∧ (mm_R M 31 1 = 32 ∧ mm_R M 31 2 = 33 ∧ mm_R M 31 3 = 34) ∧ mm_k M 32 = (20, 40) ∧ mm_k M 33 = (21, 8) ∧ mm_k M 34 = (21, 52)
theorem zk_A.keep {M M' : mm_T} {A : Nat → Prop} (h : zk_A M) (hf : zf_F M M' A) : zk_A M' := by
  unfold zk_A
  simp only [zf_k hf, zf_R hf]
  exact h
def zv_A (a : Nat) : Prop := 31 ≤ a ∧ a ≤ 34
def zv_N (P : zp_T) (n : Nat) (M : mm_T) : Prop := (∀ i, i < 40 → mm_I M 32 i = if i < n ∧ zp_k P i = 2 then nI (zp_nm P i) else -1) ∧ ∀ v, v < 8 → ∀ m, m < 64 → (bl (mm_J M 33 v) m = true ↔ ∃ i, i < n ∧ zp_k P i = 2 ∧ zp_nm P i = m ∧ (zp_l P i = v ∨ zp_r P i = v))
/-- Available holds what is so of P -/
def zd_V (M : mm_T) (P : zp_T) : Prop := zv_N P (zp_ni P) M ∧ ∀ p, p < 52 → ∀ n, n < 64 → (bl (mm_J M 34 p) n = true ↔ zp_AL P n p)
theorem zv_first {N : mm_T} {P : zp_T} (hP : zo_P N 45) (hH : zo_H N 45 P) (hV : zp_V P) {i : Nat} (hi : i < zp_ni P) (hk : zp_k P i = 2) : ff_A_firstWith 45 (nI (zp_xp P i)) N = some (nI (zp_nm P i)) := by
  have hni := hV.2.2.1
  have hself := zp_nm_self hi hk
  have hxp : ∀ j, j < zp_ni P → zp_k P j = 2 → zp_xp P j < 2 ^ 31 := by
    intro j hj hkj
    have hq := hV.2.2.2.2.2.2.2 j hj
    have h1 := hq.2.2.2.1 (show (P.2.2.2.2 j).1 ≠ 0 by show zp_k P j ≠ 0; omega)
    have h2 := hq.2.2.2.2
    have a1 : zp_l P j < 8 := h1
    have a2 : zp_o P j ≤ 2 := h2.1
    have a3 : zp_r P j < 8 := h2.2
    unfold zp_xp
    omega
  unfold ff_A_firstWith
  have body : ∀ fu j, j < zp_ni P → lf_A_firstWith_2 45 (nI (zp_xp P i)) N (fu + 1) (nI j) = if zp_sx P i j = true then some (nI j) else lf_A_firstWith_2 45 (nI (zp_xp P i)) N fu (nI (j + 1)) := by
    intro fu j hj
    show lb_A_firstWith_2 45 (nI (zp_xp P i)) N (lf_A_firstWith_2 45 (nI (zp_xp P i)) N fu) (nI j) = _
    unfold lb_A_firstWith_2
    rw [zr_instr hP hH, Option.bind_some, if_neg (nI_ge hj (by omega)), zr_kindAt hP hH hV (Or.inl hj), Option.bind_some, if_pos (show j < 40 by omega), zq_jp]
    unfold zp_sx
    have hq := hV.2.2.2.2.2.2.2 j hj
    by_cases c : zp_k P j = 2
    · rw [if_pos (show nI (zp_k P j) = (2 : Int32) by rw [c]; rfl), zr_word hP hH hV hj, Option.bind_some, zc_expr hq (show (P.2.2.2.2 j).1 ≠ 0 by show zp_k P j ≠ 0; omega), Option.bind_some]
      have e : (P.2.2.2.2 j).2.2.1 + 8 * (P.2.2.2.2 j).2.2.2.2 + 64 * (P.2.2.2.2 j).2.2.2.1 = zp_xp P j := rfl
      rw [e]
      by_cases c2 : zp_xp P j = zp_xp P i
      · rw [if_pos (by rw [c2]), if_pos (by simp [c, c2])]
      · rw [if_neg (fun h => c2 ((nI_eq (hxp j hj c) (hxp i hi hk)).mp h)), if_neg (by simp [c2]), Option.bind_some, nI_1]
    · have hk3 : zp_k P j ≤ 3 := hq.1
      rw [if_neg (show ¬ nI (zp_k P j) = (2 : Int32) from fun h => c ((nI_eq (b := 2) (by omega) (by omega)).mp h)), if_neg (by simp [c]), Option.bind_some, nI_1]
  refine zh_is (zh_up (F := fun fu j (_ : Unit) => lf_A_firstWith_2 45 (nI (zp_xp P i)) N fu j) (zp_nm P i) (fun _ _ => True) ?_ ?_ fu_L 0 () (Nat.zero_le _) (by rw [zs_fuel]; omega) trivial)
  · intro fu j s hj _ k
    show zh_H (lf_A_firstWith_2 45 (nI (zp_xp P i)) N (fu + 1) (nI j)) _
    rw [body fu j (by omega), if_neg (by rw [fa_first_no (zp_sx P i) (zp_ni P) j hj]; simp)]
    exact k () trivial
  · intro fu s _
    show zh_H (lf_A_firstWith_2 45 (nI (zp_xp P i)) N (fu + 1) (nI (zp_nm P i))) _
    rw [body fu _ (by omega), if_pos (by unfold zp_sx; simp [hself.2.1, hself.2.2])]
    exact zh_some rfl
theorem zv_note {N : mm_T} (hA : zk_A N) {v m : Nat} (hv : v < 8) : ff_A_noteOperand 31 (nI v) (nI m) N = some (mm_sJ N 33 v (mm_J N 33 v ||| jo_shl 1 (nI m))) := by
  have e31 : (mm_k N 31).1 = 0 := by rw [hA.1]
  unfold ff_A_noteOperand
  rw [zq_gd e31]
  simp only [zg_R e31, Option.bind_some, hA.2.1.2.1, zd_atL hA.2.2.2.1 hv (by omega), zd_putL hA.2.2.2.1 hv (by omega)]
theorem zv_names {M : mm_T} {P : zp_T} (hA : zk_A M) (hP : zo_P M 45) (hH : zo_H M 45 P) (hV : zp_V P) : ∃ M', ff_A_nameExpressions 31 45 M = some M' ∧ zf_F M M' (fun x => x = 32 ∨ x = 33) ∧ zv_N P (zp_ni P) M' := by
  have hni := hV.2.2.1
  have e31 : (mm_k M 31).1 = 0 := by rw [hA.1]
  unfold ff_A_nameExpressions
  rw [zq_gd e31, zg_R e31, Option.bind_some, hA.2.1.1]
  obtain ⟨M1, e1, f1, -, r1⟩ := zf_fillI hA.2.2.1 (by omega) (-1)
  rw [e1, Option.bind_some]
  have hA1 := hA.keep f1
  rw [zg_R (by rw [hA1.1]), Option.bind_some, hA1.2.1.2.1]
  obtain ⟨M2, e2, f2, -, r2⟩ := zf_fillJ hA1.2.2.2.1 (by omega) 0
  rw [e2, Option.bind_some]
  have f12 : zf_F M M2 (fun x => x = 32 ∨ x = 33) := zf_tr (zf_mono f1 (fun a h => Or.inl h)) (zf_mono f2 (fun a h => Or.inr h))
  refine zh_up (F := fun fu i N => lf_A_nameExpressions_18 31 45 fu i N) (Q := fun M' => zf_F M M' (fun x => x = 32 ∨ x = 33) ∧ zv_N P (zp_ni P) M') (zp_ni P) (fun i N => zf_F M N (fun x => x = 32 ∨ x = 33) ∧ zv_N P i N) ?_ ?_ fu_L 0 M2 (Nat.zero_le _) (by rw [zs_fuel]; omega) ⟨f12, fun i hi => by rw [zf_i f2 (by omega), r1 i, if_pos hi]; simp, fun v hv m hm => by rw [r2 v, if_pos hv, zl_0]; simp⟩
  · intro fu i N hi ⟨h1, h2, h3⟩ k
    have hA' := hA.keep h1
    have hP' := hP.keep h1
    have hH' : zo_H N 45 P := hH.keep (fun a q1 q2 k => zf_i h1 (by omega) k)
    have e31 : (mm_k N 31).1 = 0 := by rw [hA'.1]
    have hq := hV.2.2.2.2.2.2.2 i hi
    have hk3 : zp_k P i ≤ 3 := hq.1
    show zh_H (lb_A_nameExpressions_18 31 45 (lf_A_nameExpressions_18 31 45 fu) (nI i) N) _
    unfold lb_A_nameExpressions_18
    rw [zr_instr hP' hH', Option.bind_some, if_neg (nI_ge hi (by omega)), zr_kindAt hP' hH' hV (Or.inl hi), Option.bind_some, if_pos (show i < 40 by omega), zq_jp]
    by_cases c : zp_k P i = 2
    · have e : (P.2.2.2.2 i).2.2.1 + 8 * (P.2.2.2.2 i).2.2.2.2 + 64 * (P.2.2.2.2 i).2.2.2.1 = zp_xp P i := rfl
      have hnm := zp_nm_self hi c
      rw [if_pos (show nI (zp_k P i) = (2 : Int32) by rw [c]; rfl), zr_word hP' hH' hV hi, Option.bind_some, zc_expr hq (show (P.2.2.2.2 i).1 ≠ 0 by show zp_k P i ≠ 0; omega), Option.bind_some, e, zv_first hP' hH' hV hi c, Option.bind_some, zg_R e31, Option.bind_some, hA'.2.1.1, zd_put hA'.2.2.1 (by omega) (by omega), Option.bind_some]
      have f3 : zf_F M (mm_sI N 32 i (nI (zp_nm P i))) (fun x => x = 32 ∨ x = 33) := zf_tr h1 (zf_I (Or.inl rfl) _ _)
      have hA3 := hA.keep f3
      have hP3 := hP.keep f3
      have hH3 : zo_H (mm_sI N 32 i (nI (zp_nm P i))) 45 P := hH.keep (fun a q1 q2 k => zf_i f3 (by omega) k)
      have o0 : zp_op P i 0 = some (zp_l P i) := by unfold zp_op; rw [if_pos rfl, if_neg (by omega)]
      have o1 : zp_op P i 1 = some (zp_r P i) := by unfold zp_op; rw [if_neg (by omega), if_pos rfl, if_pos c]
      have hl : zp_l P i < 8 := zp_op_lt hV hi o0
      have hr : zp_r P i < 8 := zp_op_lt hV hi o1
      rw [show (0 : Int32) = nI 0 from rfl, zr_operandAt hP3 hH3 hV hi (by omega), o0, Option.bind_some, zo_some, zv_note hA3 hl, Option.bind_some]
      have f4 := zf_tr f3 (zf_J (A := fun x => x = 32 ∨ x = 33) (Or.inr rfl) (zp_l P i) (mm_J (mm_sI N 32 i (nI (zp_nm P i))) 33 (zp_l P i) ||| jo_shl 1 (nI (zp_nm P i))))
      have hA4 := hA.keep f4
      have hP4 := hP.keep f4
      have hH4 : zo_H _ 45 P := hH.keep (fun a q1 q2 k => zf_i f4 (by omega) k)
      rw [show (1 : Int32) = nI 1 from rfl, zr_operandAt hP4 hH4 hV hi (by omega), o1, Option.bind_some, zo_some, zv_note hA4 hr, Option.bind_some]
      simp only [Option.bind_some, nI_add]
      refine k _ ⟨zf_tr f4 (zf_J (Or.inr rfl) _ _), fun j hj => ?_, fun v hv m hm => ?_⟩
      · rw [zm_IJ, zm_IJ, zm_II]
        by_cases c2 : j = i
        · subst c2
          rw [if_pos ⟨rfl, rfl⟩, if_pos ⟨by omega, c⟩]
        · rw [if_neg (fun q => c2 q.2), h2 j hj]
          simp only [show (j < i + 1) ↔ (j < i) by omega]
      · have bit : bl (mm_J (mm_sJ (mm_sJ (mm_sI N 32 i (nI (zp_nm P i))) 33 (zp_l P i) (mm_J (mm_sI N 32 i (nI (zp_nm P i))) 33 (zp_l P i) ||| jo_shl 1 (nI (zp_nm P i)))) 33 (zp_r P i) (mm_J (mm_sJ (mm_sI N 32 i (nI (zp_nm P i))) 33 (zp_l P i) (mm_J (mm_sI N 32 i (nI (zp_nm P i))) 33 (zp_l P i) ||| jo_shl 1 (nI (zp_nm P i)))) 33 (zp_r P i) ||| jo_shl 1 (nI (zp_nm P i)))) 33 v) m = true ↔ (bl (mm_J N 33 v) m = true ∨ (m = zp_nm P i ∧ (zp_l P i = v ∨ zp_r P i = v))) := by
          have one := zl_one (zp_nm P i) (by omega) m
          simp only [zm_JJ, zm_JI]
          by_cases a1 : v = zp_r P i
          · subst a1
            rw [if_pos ⟨trivial, rfl⟩, zl_or, one]
            by_cases a2 : zp_r P i = zp_l P i
            · rw [if_pos ⟨trivial, a2⟩, zl_or, one, ← a2]
              simp
            · rw [if_neg (fun q => a2 q.2)]
              simp
          · rw [if_neg (fun q => a1 q.2)]
            by_cases a2 : v = zp_l P i
            · rw [if_pos ⟨trivial, a2⟩, zl_or, one, a2]
              simp
            · rw [if_neg (fun q => a2 q.2)]
              simp [Ne.symm a1, Ne.symm a2]
        refine bit.trans ?_
        rw [h3 v hv m hm]
        constructor
        · rintro (⟨j, q1, q2⟩ | ⟨q1, q2⟩)
          · exact ⟨j, by omega, q2⟩
          · exact ⟨i, by omega, c, q1.symm, q2⟩
        · rintro ⟨j, q1, q2, q3, q4⟩
          rcases Nat.lt_or_ge j i with a | a
          · exact Or.inl ⟨j, a, q2, q3, q4⟩
          · rw [show j = i by omega] at q3 q4
            exact Or.inr ⟨q3.symm, q4⟩
    · rw [if_neg (show ¬ nI (zp_k P i) = (2 : Int32) from fun h => c ((nI_eq (b := 2) (by omega) (by omega)).mp h))]
      simp only [Option.bind_some, nI_1]
      refine k _ ⟨h1, fun j hj => ?_, fun v hv m hm => ?_⟩
      · rw [h2 j hj]
        by_cases c2 : j = i
        · subst c2; simp [c]
        · simp only [show (j < i + 1) ↔ (j < i) by omega]
      · rw [h3 v hv m hm]
        constructor
        · rintro ⟨j, q1, q2⟩
          exact ⟨j, by omega, q2⟩
        · rintro ⟨j, q1, q2, q3⟩
          refine ⟨j, ?_, q2, q3⟩
          rcases Nat.lt_or_ge j i with a | a
          · exact a
          · exact absurd q2 (by rw [show j = i by omega]; exact c)
  · intro fu N ⟨h1, h2⟩
    have hP' := hP.keep h1
    have hH' : zo_H N 45 P := hH.keep (fun a q1 q2 k => zf_i h1 (by omega) k)
    show zh_H (lb_A_nameExpressions_18 31 45 (lf_A_nameExpressions_18 31 45 fu) (nI (zp_ni P)) N) _
    unfold lb_A_nameExpressions_18
    rw [zr_instr hP' hH', Option.bind_some, if_pos (nI_le (Nat.le_refl _) (by omega))]
    exact zh_some ⟨h1, h2⟩
