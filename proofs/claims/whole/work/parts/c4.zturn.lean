/-! ===== a program in the making; the class's turns ===== -/
def zQ_add (Q : zp_T) : zp_T := (zp_nb Q + 1, zp_ni Q, (fun c => if c = zp_nb Q + 1 then zp_ni Q else zp_st Q c), Q.2.2.2.1, Q.2.2.2.2)
def zQ_app (Q : zp_T) (q : Nat × Nat × Nat × Nat × Nat) : zp_T := (zp_nb Q, zp_ni Q + 1, (fun c => if c = zp_nb Q then zp_ni Q + 1 else zp_st Q c), Q.2.2.2.1, fun j => if j = zp_ni Q then q else Q.2.2.2.2 j)
def zT_ins (tx : (Nat → Nat) × Nat) (kd e : Nat) : ((Nat × Nat × Nat × Nat × Nat) × Nat) ⊕ zT_R :=
  if kd = 0 then zT_bind (zT_var tx e) fun a => zT_bind (zT_num tx 999 a.2) fun b => .inl ((0, a.1, b.1, 0, 0), b.2)
  else if kd = 1 then zT_bind (zT_var tx e) fun a => zT_bind (zT_var tx a.2) fun b => .inl ((1, a.1, b.1, 0, 0), b.2)
  else if kd = 2 then zT_bind (zT_var tx e) fun a => zT_bind (zT_var tx a.2) fun b => zT_bind (zT_opr tx b.2) fun c => zT_bind (zT_var tx c.2) fun d => .inl ((2, a.1, b.1, c.1, d.1), d.2)
  else zT_bind (zT_var tx e) fun a => .inl ((3, 0, a.1, 0, 0), a.2)
def zT_kh (tx : (Nat → Nat) × Nat) (e : Nat) : Option Nat := if zT_W tx e 2 then some 0 else if zT_W tx e 3 then some 1 else if zT_W tx e 4 then some 2 else if zT_W tx e 5 then some 3 else none
def zT_item (tx : (Nat → Nat) × Nat) (Q : zp_T) (e kd : Nat) : (zp_T × Nat) ⊕ zT_R := if zp_ni Q < 40 then zT_bind (zT_ins tx kd (zT_e tx e)) fun a => zT_bind (zT_sem tx a.2) fun e' => .inl (zQ_app Q a.1, e') else .inr (3, zT_s' tx e)
def zT_ex (tx : (Nat → Nat) × Nat) (e : Nat) : ((Nat × Nat × Nat × Nat) × (Nat × Nat) × Nat) ⊕ zT_R :=
  if zT_W tx e 9 then .inl ((0, 0, 0, 0), (0, 0), zT_e tx e)
  else if zT_W tx e 10 then zT_bind (zT_num tx 11 (zT_e tx e)) fun a => .inl ((1, 0, a.1, 0), (zT_s' tx (zT_e tx e), 0), a.2)
  else if zT_W tx e 11 then zT_bind (zT_var tx (zT_e tx e)) fun a => zT_bind (zT_num tx 11 a.2) fun b => zT_bind (zT_num tx 11 b.2) fun c => .inl ((2, a.1, b.1, c.1), (zT_s' tx a.2, zT_s' tx b.2), c.2)
  else .inr (1, zT_s' tx e)
def zT_exit (tx : (Nat → Nat) × Nat) (Q : zp_T) (F : Nat → Nat × Nat) (e : Nat) : (zp_T × (Nat → Nat × Nat) × Nat) ⊕ zT_R := zT_bind (zT_ex tx e) fun a => zT_bind (zT_sem tx a.2.2) fun e' => .inl (zp_setx Q (zp_nb Q - 1) a.1, (fun b => if b = zp_nb Q - 1 then a.2.1 else F b), e')
def zT_head (tx : (Nat → Nat) × Nat) (Q : zp_T) (e : Nat) : (zp_T × Nat) ⊕ zT_R := if zT_W tx e 1 then (if zp_nb Q < 12 then zT_bind (zT_sem tx (zT_e tx e)) fun e' => .inl (zQ_add Q, e') else .inr (3, zT_s' tx e)) else .inr (1, zT_s' tx e)
/-- well formed so far: m blocks are closed -/
def zQ_V (Q : zp_T) (m : Nat) : Prop := zp_nb Q ≤ 12 ∧ zp_ni Q ≤ 40 ∧ zp_st Q 0 = 0 ∧ (∀ b, b < zp_nb Q → zp_st Q b ≤ zp_st Q (b + 1)) ∧ zp_st Q (zp_nb Q) = zp_ni Q ∧ m ≤ zp_nb Q ∧ (∀ b, b < m → zp_w Q b ≤ 2 ∧ (1 ≤ zp_w Q b → zp_f Q b ≤ 11) ∧ (zp_w Q b = 2 → zp_x Q b < 8 ∧ zp_s Q b ≤ 11)) ∧ ∀ i, i < zp_ni Q → zp_iok (Q.2.2.2.2 i)
theorem zQ_add_V {Q : zp_T} {m : Nat} (h : zQ_V Q m) (h12 : zp_nb Q < 12) : zQ_V (zQ_add Q) m := by
  obtain ⟨h1, h2, h3, h4, h5, h6, h7, h8⟩ := h
  refine ⟨h12, h2, ?_, fun b hb => ?_, ?_, by show m ≤ zp_nb Q + 1; omega, h7, h8⟩
  · show (if 0 = zp_nb Q + 1 then zp_ni Q else zp_st Q 0) = 0
    rw [if_neg (by omega), h3]
  · have hb' : b < zp_nb Q + 1 := hb
    show (if b = zp_nb Q + 1 then zp_ni Q else zp_st Q b) ≤ (if b + 1 = zp_nb Q + 1 then zp_ni Q else zp_st Q (b + 1))
    rw [if_neg (by omega)]
    by_cases c : b = zp_nb Q
    · rw [if_pos (by omega), c, h5]; exact Nat.le_refl _
    · rw [if_neg (by omega)]; exact h4 b (by omega)
  · show (if zp_nb Q + 1 = zp_nb Q + 1 then zp_ni Q else zp_st Q (zp_nb Q + 1)) = zp_ni Q
    rw [if_pos rfl]
theorem zQ_app_V {Q : zp_T} {m : Nat} (h : zQ_V Q m) {q : Nat × Nat × Nat × Nat × Nat} (hq : zp_iok q) (h40 : zp_ni Q < 40) (hnb : 1 ≤ zp_nb Q) : zQ_V (zQ_app Q q) m := by
  obtain ⟨h1, h2, h3, h4, h5, h6, h7, h8⟩ := h
  refine ⟨h1, h40, ?_, fun b hb => ?_, ?_, h6, h7, fun i hi => ?_⟩
  · show (if 0 = zp_nb Q then zp_ni Q + 1 else zp_st Q 0) = 0
    rw [if_neg (by omega), h3]
  · have hb' : b < zp_nb Q := hb
    have := h4 b hb'
    show (if b = zp_nb Q then zp_ni Q + 1 else zp_st Q b) ≤ (if b + 1 = zp_nb Q then zp_ni Q + 1 else zp_st Q (b + 1))
    rw [if_neg (by omega)]
    by_cases c : b + 1 = zp_nb Q
    · rw [if_pos c]; rw [c, h5] at this; omega
    · rw [if_neg c]; exact this
  · show (if zp_nb Q = zp_nb Q then zp_ni Q + 1 else zp_st Q (zp_nb Q)) = zp_ni Q + 1
    rw [if_pos rfl]
  · have hi' : i < zp_ni Q + 1 := hi
    show zp_iok (if i = zp_ni Q then q else Q.2.2.2.2 i)
    by_cases c : i = zp_ni Q
    · rw [if_pos c]; exact hq
    · rw [if_neg c]; exact h8 i (by omega)
theorem zQ_setx_V {Q : zp_T} {m : Nat} (h : zQ_V Q m) (hm : m + 1 = zp_nb Q) {q : Nat × Nat × Nat × Nat} (hq : q.1 ≤ 2 ∧ (1 ≤ q.1 → q.2.2.1 ≤ 11) ∧ (q.1 = 2 → q.2.1 < 8 ∧ q.2.2.2 ≤ 11)) : zQ_V (zp_setx Q (zp_nb Q - 1) q) (m + 1) := by
  obtain ⟨h1, h2, h3, h4, h5, h6, h7, h8⟩ := h
  refine ⟨h1, h2, h3, h4, h5, by show m + 1 ≤ zp_nb Q; omega, fun b hb => ?_, h8⟩
  have e : (zp_setx Q (zp_nb Q - 1) q).2.2.2.1 b = if b = zp_nb Q - 1 then q else Q.2.2.2.1 b := rfl
  unfold zp_w zp_f zp_x zp_s
  rw [e]
  by_cases c : b = zp_nb Q - 1
  · rw [if_pos c]; exact hq
  · rw [if_neg c]; exact h7 b (by omega)
theorem zT_var_ok {tx : (Nat → Nat) × Nat} {e : Nat} {a : Nat × Nat} (he : e ≤ tx.2) (h : zT_var tx e = .inl a) : a.1 < 8 ∧ a.2 = zT_e tx e ∧ e < a.2 ∧ a.2 ≤ tx.2 := by
  have hel := zT_e_le he
  have hsg := zT_s_ge tx e
  unfold zT_var at h
  split at h
  · rename_i c
    have hle := zT_let (b := tx.1 (zT_s' tx e)) (by rw [zT_in (Or.inl c.1) (Nat.le_refl _) (hel.2.2 (by omega)), c.1])
    cases h
    have := hel.2.2 (by omega)
    exact ⟨by show tx.1 (zT_s' tx e) - 97 < 8; omega, rfl, by show e < zT_e tx e; omega, hel.2.1⟩
  · cases h
theorem zT_num_ok {tx : (Nat → Nat) × Nat} {e m : Nat} {a : Nat × Nat} (he : e ≤ tx.2) (h : zT_num tx m e = .inl a) : a.1 ≤ m ∧ a.2 = zT_e tx e ∧ e < a.2 ∧ a.2 ≤ tx.2 := by
  have hel := zT_e_le he
  have hsg := zT_s_ge tx e
  unfold zT_num at h
  split at h
  · split at h
    · rename_i c1 c2
      cases h
      have := hel.2.2 (by omega)
      exact ⟨c2, rfl, by show e < zT_e tx e; omega, hel.2.1⟩
    · cases h
  · cases h
theorem zT_opr_ok {tx : (Nat → Nat) × Nat} {e : Nat} {a : Nat × Nat} (he : e ≤ tx.2) (h : zT_opr tx e = .inl a) : a.1 ≤ 2 ∧ a.2 = zT_e tx e ∧ e < a.2 ∧ a.2 ≤ tx.2 := by
  have hel := zT_e_le he
  have hsg := zT_s_ge tx e
  have key : ∀ i, zT_W tx e i → e < zT_e tx e := fun i w => by have := hel.2.2 (by have := w.1; omega); omega
  unfold zT_opr at h
  split at h
  · rename_i c; cases h; exact ⟨by show (0 : Nat) ≤ 2; omega, rfl, key _ c, hel.2.1⟩
  · split at h
    · rename_i c; cases h; exact ⟨by show (1 : Nat) ≤ 2; omega, rfl, key _ c, hel.2.1⟩
    · split at h
      · rename_i c; cases h; exact ⟨by show (2 : Nat) ≤ 2; omega, rfl, key _ c, hel.2.1⟩
      · cases h
theorem zT_sem_ok {tx : (Nat → Nat) × Nat} {e a : Nat} (he : e ≤ tx.2) (h : zT_sem tx e = .inl a) : a = zT_e tx e ∧ e < a ∧ a ≤ tx.2 := by
  have hel := zT_e_le he
  have hsg := zT_s_ge tx e
  unfold zT_sem at h
  split at h
  · rename_i c; cases h; have := hel.2.2 (by omega); exact ⟨rfl, by omega, hel.2.1⟩
  · cases h
theorem zT_bind_inl {α β : Type} {x : α ⊕ zT_R} {k : α → β ⊕ zT_R} {b : β} (h : zT_bind x k = .inl b) : ∃ a, x = .inl a ∧ k a = .inl b := by
  cases x with
  | inl a => exact ⟨a, rfl, h⟩
  | inr e => cases h
theorem zT_ins_ok {tx : (Nat → Nat) × Nat} {kd e : Nat} {a : (Nat × Nat × Nat × Nat × Nat) × Nat} (he : e ≤ tx.2) (h : zT_ins tx kd e = .inl a) : zp_iok a.1 ∧ e < a.2 ∧ a.2 ≤ tx.2 := by
  unfold zT_ins at h
  split at h
  · obtain ⟨x, hx, h⟩ := zT_bind_inl h
    obtain ⟨y, hy, h⟩ := zT_bind_inl h
    cases h
    have a1 := zT_var_ok he hx
    have a2 := zT_num_ok a1.2.2.2 hy
    exact ⟨zp_iok_set a1.1 (by omega), by show e < y.2; omega, a2.2.2.2⟩
  · split at h
    · obtain ⟨x, hx, h⟩ := zT_bind_inl h
      obtain ⟨y, hy, h⟩ := zT_bind_inl h
      cases h
      have a1 := zT_var_ok he hx
      have a2 := zT_var_ok a1.2.2.2 hy
      exact ⟨zp_iok_move a1.1 a2.1, by show e < y.2; omega, a2.2.2.2⟩
    · split at h
      · obtain ⟨x, hx, h⟩ := zT_bind_inl h
        obtain ⟨y, hy, h⟩ := zT_bind_inl h
        obtain ⟨z, hz, h⟩ := zT_bind_inl h
        obtain ⟨w, hw, h⟩ := zT_bind_inl h
        cases h
        have a1 := zT_var_ok he hx
        have a2 := zT_var_ok a1.2.2.2 hy
        have a3 := zT_opr_ok a2.2.2.2 hz
        have a4 := zT_var_ok a3.2.2.2 hw
        exact ⟨zp_iok_calc a1.1 a2.1 a3.1 a4.1, by show e < w.2; omega, a4.2.2.2⟩
      · obtain ⟨x, hx, h⟩ := zT_bind_inl h
        cases h
        have a1 := zT_var_ok he hx
        exact ⟨zp_iok_show a1.1, a1.2.2.1, a1.2.2.2⟩
theorem zT_ex_ok {tx : (Nat → Nat) × Nat} {e : Nat} {a : (Nat × Nat × Nat × Nat) × (Nat × Nat) × Nat} (he : e ≤ tx.2) (h : zT_ex tx e = .inl a) : (a.1.1 ≤ 2 ∧ (1 ≤ a.1.1 → a.1.2.2.1 ≤ 11) ∧ (a.1.1 = 2 → a.1.2.1 < 8 ∧ a.1.2.2.2 ≤ 11)) ∧ e < a.2.2 ∧ a.2.2 ≤ tx.2 := by
  have hel := zT_e_le he
  have hsg := zT_s_ge tx e
  have key : ∀ i, zT_W tx e i → e < zT_e tx e := fun i w => by have := hel.2.2 (by have := w.1; omega); omega
  unfold zT_ex at h
  split at h
  · rename_i c
    cases h
    exact ⟨⟨by show (0 : Nat) ≤ 2; omega, fun z => absurd z (by show ¬ 1 ≤ (0 : Nat); omega), fun z => absurd z (by show ¬ (0 : Nat) = 2; omega)⟩, key _ c, hel.2.1⟩
  · split at h
    · rename_i c
      obtain ⟨x, hx, h⟩ := zT_bind_inl h
      cases h
      have a1 := zT_num_ok hel.2.1 hx
      have := key _ c
      exact ⟨⟨by show (1 : Nat) ≤ 2; omega, fun _ => a1.1, fun z => absurd z (by show ¬ (1 : Nat) = 2; omega)⟩, by show e < x.2; omega, a1.2.2.2⟩
    · split at h
      · rename_i c
        obtain ⟨x, hx, h⟩ := zT_bind_inl h
        obtain ⟨y, hy, h⟩ := zT_bind_inl h
        obtain ⟨z, hz, h⟩ := zT_bind_inl h
        cases h
        have a1 := zT_var_ok hel.2.1 hx
        have a2 := zT_num_ok a1.2.2.2 hy
        have a3 := zT_num_ok a2.2.2.2 hz
        have := key _ c
        exact ⟨⟨Nat.le_refl _, fun _ => a2.1, fun _ => ⟨a1.1, a3.1⟩⟩, by show e < z.2; omega, a3.2.2.2⟩
      · cases h
/-- the draft at t holds Q, m blocks closed -/
def zQ_H (M : mm_T) (t : Nat) (Q : zp_T) (m : Nat) : Prop := mm_I M t 0 = nI (zp_nb Q) ∧ mm_I M t 1 = nI (zp_ni Q) ∧ (∀ i, i < zp_ni Q → mm_I M (t + 1) i = nI (zp_W (Q.2.2.2.2 i))) ∧ (∀ b, b ≤ zp_nb Q → 1 ≤ zp_nb Q → mm_I M (t + 2) b = nI (zp_st Q b)) ∧ ∀ b, b < m → mm_I M (t + 3) b = nI (zp_w Q b) ∧ (zp_w Q b = 2 → mm_I M (t + 4) b = nI (zp_x Q b)) ∧ (1 ≤ zp_w Q b → mm_I M (t + 5) b = nI (zp_f Q b)) ∧ (zp_w Q b = 2 → mm_I M (t + 6) b = nI (zp_s Q b))
theorem zQ_H.keep {M M' : mm_T} {t : Nat} {Q : zp_T} {m : Nat} (h : zQ_H M t Q m) (hI : ∀ a, t ≤ a → a ≤ t + 6 → ∀ k, mm_I M' a k = mm_I M a k) : zQ_H M' t Q m := by
  obtain ⟨h1, h2, h3, h4, h5⟩ := h
  refine ⟨(hI t (by omega) (by omega) 0).trans h1, (hI t (by omega) (by omega) 1).trans h2, fun i hi => (hI _ (by omega) (by omega) i).trans (h3 i hi), fun b hb hn => (hI _ (by omega) (by omega) b).trans (h4 b hb hn), fun b hb => ?_⟩
  obtain ⟨a1, a2, a3, a4⟩ := h5 b hb
  exact ⟨(hI _ (by omega) (by omega) b).trans a1, fun z => (hI _ (by omega) (by omega) b).trans (a2 z), fun z => (hI _ (by omega) (by omega) b).trans (a3 z), fun z => (hI _ (by omega) (by omega) b).trans (a4 z)⟩
section ZQO
variable {M : mm_T} {t : Nat} {Q : zp_T} {m : Nat}
theorem zQ_addC (hP : zo_P M t) (hH : zQ_H M t Q m) (hV : zQ_V Q m) (h12 : zp_nb Q < 12) : ∃ M', ff_P_addBlock t M = some M' ∧ zf_F M M' (zo_A t) ∧ zQ_H M' t (zQ_add Q) m := by
  have f1 : zf_F M (mm_sI M (t + 2) (zp_nb Q) (nI (zp_ni Q))) (zo_A t) := zf_I (by unfold zo_A; omega) _ _
  have hP1 := hP.keep f1
  have f2 : zf_F M (mm_sI (mm_sI M (t + 2) (zp_nb Q) (nI (zp_ni Q))) t 0 (nI (zp_nb Q + 1))) (zo_A t) := zf_tr f1 (zf_I (by unfold zo_A; omega) _ _)
  have hP2 := hP.keep f2
  have i0 : mm_I (mm_sI M (t + 2) (zp_nb Q) (nI (zp_ni Q))) t 0 = nI (zp_nb Q) := by rw [zm_II, if_neg (by omega), hH.1]
  have j0 : mm_I (mm_sI (mm_sI M (t + 2) (zp_nb Q) (nI (zp_ni Q))) t 0 (nI (zp_nb Q + 1))) t 0 = nI (zp_nb Q + 1) := by rw [zm_II, if_pos ⟨rfl, rfl⟩]
  have j1 : mm_I (mm_sI (mm_sI M (t + 2) (zp_nb Q) (nI (zp_ni Q))) t 0 (nI (zp_nb Q + 1))) t 1 = nI (zp_ni Q) := by rw [zm_II, if_neg (by omega), zm_II, if_neg (by omega), hH.2.1]
  unfold ff_P_addBlock
  rw [zq_gd (zo_e hP), zg_R (zo_e hP), Option.bind_some, hP.2.1.2.1, zg_I (zo_e hP), Option.bind_some, hH.1, zg_I (zo_e hP), Option.bind_some, hH.2.1, zd_put hP.2.2.2.1 (show zp_nb Q < 13 by omega) (by omega), Option.bind_some, zg_I (zo_e hP1), Option.bind_some, i0, nI_1, zp_I (zo_e hP1), Option.bind_some, zg_R (zo_e hP2), Option.bind_some, hP2.2.1.2.1, zg_I (zo_e hP2), Option.bind_some, j0, zg_I (zo_e hP2), Option.bind_some, j1, zd_put hP2.2.2.2.1 (show zp_nb Q + 1 < 13 by omega) (by omega), Option.bind_some]
  refine ⟨_, rfl, zf_tr f2 (zf_I (by unfold zo_A; omega) _ _), ?_⟩
  obtain ⟨h1, h2, h3, h4, h5⟩ := hH
  have old : ∀ a, a ≠ t → a ≠ t + 2 → ∀ k, mm_I (mm_sI (mm_sI (mm_sI M (t + 2) (zp_nb Q) (nI (zp_ni Q))) t 0 (nI (zp_nb Q + 1))) (t + 2) (zp_nb Q + 1) (nI (zp_ni Q))) a k = mm_I M a k := fun a z1 z2 k => by rw [zm_II, if_neg (fun z => z2 z.1), zm_II, if_neg (fun z => z1 z.1), zm_II, if_neg (fun z => z2 z.1)]
  refine ⟨?_, ?_, fun i hi => ?_, fun b hb hn => ?_, fun b hb => ?_⟩
  · rw [zm_II, if_neg (by omega), j0]; rfl
  · rw [zm_II, if_neg (by omega), j1]; rfl
  · rw [old _ (by omega) (by omega)]; exact h3 i hi
  · have hb' : b ≤ zp_nb Q + 1 := hb
    show _ = nI (if b = zp_nb Q + 1 then zp_ni Q else zp_st Q b)
    rw [zm_II]
    by_cases c : b = zp_nb Q + 1
    · rw [if_pos ⟨rfl, c⟩, if_pos c]
    · rw [if_neg (fun z => c z.2), if_neg c, zm_II, if_neg (by omega), zm_II]
      by_cases c2 : b = zp_nb Q
      · rw [if_pos ⟨rfl, c2⟩, c2, hV.2.2.2.2.1]
      · rw [if_neg (fun z => c2 z.2)]; exact h4 b (by omega) (by omega)
  · obtain ⟨a1, a2, a3, a4⟩ := h5 b hb
    rw [old _ (by omega) (by omega), old _ (by omega) (by omega), old _ (by omega) (by omega), old _ (by omega) (by omega)]
    exact ⟨a1, a2, a3, a4⟩
theorem zQ_appC (hP : zo_P M t) (hH : zQ_H M t Q m) (hV : zQ_V Q m) (h40 : zp_ni Q < 40) (q : Nat × Nat × Nat × Nat × Nat) : ∃ M', ff_P_append t (nI (zp_W q)) M = some M' ∧ zf_F M M' (zo_A t) ∧ zQ_H M' t (zQ_app Q q) m := by
  have h12 := hV.1
  have f1 : zf_F M (mm_sI M (t + 1) (zp_ni Q) (nI (zp_W q))) (zo_A t) := zf_I (by unfold zo_A; omega) _ _
  have hP1 := hP.keep f1
  have f2 : zf_F M (mm_sI (mm_sI M (t + 1) (zp_ni Q) (nI (zp_W q))) t 1 (nI (zp_ni Q + 1))) (zo_A t) := zf_tr f1 (zf_I (by unfold zo_A; omega) _ _)
  have hP2 := hP.keep f2
  have i1 : mm_I (mm_sI M (t + 1) (zp_ni Q) (nI (zp_W q))) t 1 = nI (zp_ni Q) := by rw [zm_II, if_neg (by omega), hH.2.1]
  have j0 : mm_I (mm_sI (mm_sI M (t + 1) (zp_ni Q) (nI (zp_W q))) t 1 (nI (zp_ni Q + 1))) t 0 = nI (zp_nb Q) := by rw [zm_II, if_neg (by omega), zm_II, if_neg (by omega), hH.1]
  have j1 : mm_I (mm_sI (mm_sI M (t + 1) (zp_ni Q) (nI (zp_W q))) t 1 (nI (zp_ni Q + 1))) t 1 = nI (zp_ni Q + 1) := by rw [zm_II, if_pos ⟨rfl, rfl⟩]
  unfold ff_P_append
  rw [zq_gd (zo_e hP), zg_R (zo_e hP), Option.bind_some, hP.2.1.1, zg_I (zo_e hP), Option.bind_some, hH.2.1, zd_put hP.2.2.1 h40 (by omega), Option.bind_some, zg_I (zo_e hP1), Option.bind_some, i1, nI_1, zp_I (zo_e hP1), Option.bind_some, zg_R (zo_e hP2), Option.bind_some, hP2.2.1.2.1, zg_I (zo_e hP2), Option.bind_some, j0, zg_I (zo_e hP2), Option.bind_some, j1, zd_put hP2.2.2.2.1 (show zp_nb Q < 13 by omega) (by omega), Option.bind_some]
  refine ⟨_, rfl, zf_tr f2 (zf_I (by unfold zo_A; omega) _ _), ?_⟩
  obtain ⟨h1, h2, h3, h4, h5⟩ := hH
  have old : ∀ a, a ≠ t → a ≠ t + 1 → a ≠ t + 2 → ∀ k, mm_I (mm_sI (mm_sI (mm_sI M (t + 1) (zp_ni Q) (nI (zp_W q))) t 1 (nI (zp_ni Q + 1))) (t + 2) (zp_nb Q) (nI (zp_ni Q + 1))) a k = mm_I M a k := fun a z1 z2 z3 k => by rw [zm_II, if_neg (fun z => z3 z.1), zm_II, if_neg (fun z => z1 z.1), zm_II, if_neg (fun z => z2 z.1)]
  refine ⟨?_, ?_, fun i hi => ?_, fun b hb hn => ?_, fun b hb => ?_⟩
  · rw [zm_II, if_neg (by omega), j0]; rfl
  · rw [zm_II, if_neg (by omega), j1]; rfl
  · have hi' : i < zp_ni Q + 1 := hi
    rw [zm_II, if_neg (by omega), zm_II, if_neg (by omega), zm_II]
    show _ = nI (zp_W (if i = zp_ni Q then q else Q.2.2.2.2 i))
    by_cases c : i = zp_ni Q
    · rw [if_pos ⟨rfl, c⟩, if_pos c]
    · rw [if_neg (fun z => c z.2), if_neg c]; exact h3 i (by omega)
  · show _ = nI (if b = zp_nb Q then zp_ni Q + 1 else zp_st Q b)
    rw [zm_II]
    by_cases c : b = zp_nb Q
    · rw [if_pos ⟨rfl, c⟩, if_pos c]
    · rw [if_neg (fun z => c z.2), if_neg c, zm_II, if_neg (by omega), zm_II, if_neg (by omega)]
      exact h4 b hb hn
  · obtain ⟨a1, a2, a3, a4⟩ := h5 b hb
    rw [old _ (by omega) (by omega) (by omega), old _ (by omega) (by omega) (by omega), old _ (by omega) (by omega) (by omega), old _ (by omega) (by omega) (by omega)]
    exact ⟨a1, a2, a3, a4⟩
/-- exits, whatever is laid -/
theorem zQ_ex0 (hP : zo_P M t) {b : Nat} (hb : b < 12) : ∃ M', ff_P_exitByStop t (nI b) M = some M' ∧ zf_F M M' (zo_A t) ∧ (∀ a k, a ≠ t + 3 ∨ k ≠ b → mm_I M' a k = mm_I M a k) ∧ mm_I M' (t + 3) b = 0 := by
  unfold ff_P_exitByStop
  rw [zq_gd (zo_e hP), zg_R (zo_e hP), Option.bind_some, hP.2.1.2.2.1, zd_put hP.2.2.2.2.1 hb (by omega), Option.bind_some]
  exact ⟨_, rfl, zf_I (by unfold zo_A; omega) _ _, fun a k z => by rw [zm_II, if_neg (by omega)], by rw [zm_II, if_pos ⟨rfl, rfl⟩]⟩
theorem zQ_ex1 (hP : zo_P M t) {b : Nat} (hb : b < 12) (y : Int32) : ∃ M', ff_P_exitByGoto t (nI b) y M = some M' ∧ zf_F M M' (zo_A t) ∧ (∀ a k, (a ≠ t + 3 ∧ a ≠ t + 5) ∨ k ≠ b → mm_I M' a k = mm_I M a k) ∧ mm_I M' (t + 3) b = 1 ∧ mm_I M' (t + 5) b = y := by
  have f1 : zf_F M (mm_sI M (t + 3) b 1) (zo_A t) := zf_I (by unfold zo_A; omega) _ _
  have hP1 := hP.keep f1
  unfold ff_P_exitByGoto
  rw [zq_gd (zo_e hP), zg_R (zo_e hP), Option.bind_some, hP.2.1.2.2.1, zd_put hP.2.2.2.2.1 hb (by omega), Option.bind_some, zg_R (zo_e hP1), Option.bind_some, hP1.2.1.2.2.2.2.1, zd_put hP1.2.2.2.2.2.2.1 hb (by omega), Option.bind_some]
  exact ⟨_, rfl, zf_tr f1 (zf_I (by unfold zo_A; omega) _ _), fun a k z => by rw [zm_II, if_neg (by omega), zm_II, if_neg (by omega)], by rw [zm_II, if_neg (by omega), zm_II, if_pos ⟨rfl, rfl⟩], by rw [zm_II, if_pos ⟨rfl, rfl⟩]⟩
theorem zQ_ex2 (hP : zo_P M t) {b : Nat} (hb : b < 12) (v y z : Int32) : ∃ M', ff_P_exitByBranch t (nI b) v y z M = some M' ∧ zf_F M M' (zo_A t) ∧ (∀ a k, (a ≠ t + 3 ∧ a ≠ t + 4 ∧ a ≠ t + 5 ∧ a ≠ t + 6) ∨ k ≠ b → mm_I M' a k = mm_I M a k) ∧ mm_I M' (t + 3) b = 2 ∧ mm_I M' (t + 4) b = v ∧ mm_I M' (t + 5) b = y ∧ mm_I M' (t + 6) b = z := by
  have f1 : zf_F M (mm_sI M (t + 3) b 2) (zo_A t) := zf_I (by unfold zo_A; omega) _ _
  have hP1 := hP.keep f1
  have f2 : zf_F M (mm_sI (mm_sI M (t + 3) b 2) (t + 4) b v) (zo_A t) := zf_tr f1 (zf_I (by unfold zo_A; omega) _ _)
  have hP2 := hP.keep f2
  have f3 : zf_F M (mm_sI (mm_sI (mm_sI M (t + 3) b 2) (t + 4) b v) (t + 5) b y) (zo_A t) := zf_tr f2 (zf_I (by unfold zo_A; omega) _ _)
  have hP3 := hP.keep f3
  unfold ff_P_exitByBranch
  rw [zq_gd (zo_e hP), zg_R (zo_e hP), Option.bind_some, hP.2.1.2.2.1, zd_put hP.2.2.2.2.1 hb (by omega), Option.bind_some, zg_R (zo_e hP1), Option.bind_some, hP1.2.1.2.2.2.1, zd_put hP1.2.2.2.2.2.1 hb (by omega), Option.bind_some, zg_R (zo_e hP2), Option.bind_some, hP2.2.1.2.2.2.2.1, zd_put hP2.2.2.2.2.2.2.1 hb (by omega), Option.bind_some, zg_R (zo_e hP3), Option.bind_some, hP3.2.1.2.2.2.2.2, zd_put hP3.2.2.2.2.2.2.2 hb (by omega), Option.bind_some]
  refine ⟨_, rfl, zf_tr f3 (zf_I (by unfold zo_A; omega) _ _), fun a k w => ?_, ?_, ?_, ?_, ?_⟩
  · rw [zm_II, if_neg (by omega), zm_II, if_neg (by omega), zm_II, if_neg (by omega), zm_II, if_neg (by omega)]
  · rw [zm_II, if_neg (by omega), zm_II, if_neg (by omega), zm_II, if_neg (by omega), zm_II, if_pos ⟨rfl, rfl⟩]
  · rw [zm_II, if_neg (by omega), zm_II, if_neg (by omega), zm_II, if_pos ⟨rfl, rfl⟩]
  · rw [zm_II, if_neg (by omega), zm_II, if_pos ⟨rfl, rfl⟩]
  · rw [zm_II, if_pos ⟨rfl, rfl⟩]
/-- the open block was closed -/
theorem zQ_close {M' : mm_T} (hH : zQ_H M t Q m) (hm : m + 1 = zp_nb Q) {q : Nat × Nat × Nat × Nat} (hk : ∀ a k, (a < t + 3 ∨ t + 6 < a) ∨ k ≠ zp_nb Q - 1 → mm_I M' a k = mm_I M a k) (h3 : mm_I M' (t + 3) (zp_nb Q - 1) = nI q.1) (h4 : q.1 = 2 → mm_I M' (t + 4) (zp_nb Q - 1) = nI q.2.1) (h5 : 1 ≤ q.1 → mm_I M' (t + 5) (zp_nb Q - 1) = nI q.2.2.1) (h6 : q.1 = 2 → mm_I M' (t + 6) (zp_nb Q - 1) = nI q.2.2.2) : zQ_H M' t (zp_setx Q (zp_nb Q - 1) q) (m + 1) := by
  obtain ⟨g1, g2, g3, g4, g5⟩ := hH
  refine ⟨(hk _ _ (by omega)).trans g1, (hk _ _ (by omega)).trans g2, fun i hi => (hk _ _ (by omega)).trans (g3 i hi), fun b hb hn => (hk _ _ (by omega)).trans (g4 b hb hn), fun b hb => ?_⟩
  have e : (zp_setx Q (zp_nb Q - 1) q).2.2.2.1 b = if b = zp_nb Q - 1 then q else Q.2.2.2.1 b := rfl
  unfold zp_w zp_f zp_x zp_s
  rw [e]
  by_cases c : b = zp_nb Q - 1
  · rw [if_pos c, c]; exact ⟨h3, h4, h5, h6⟩
  · rw [if_neg c, hk _ _ (Or.inr c), hk _ _ (Or.inr c), hk _ _ (Or.inr c), hk _ _ (Or.inr c)]
    exact g5 b (by omega)
end ZQO
