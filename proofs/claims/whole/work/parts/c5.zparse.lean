/-! ===== the class's turns ===== -/
/-- positions told -/
def zQ_F (M : mm_T) (F : Nat → Nat × Nat) (Q : zp_T) (m : Nat) : Prop := ∀ b, b < m → (1 ≤ zp_w Q b → mm_I M 11 b = nI (F b).1) ∧ (zp_w Q b = 2 → mm_I M 12 b = nI (F b).2)
/-- the class in the midst of the text, no error yet -/
def zQ_S (M0 M : mm_T) (tx : (Nat → Nat) × Nat) (Q : zp_T) (F : Nat → Nat × Nat) (m e : Nat) : Prop := zf_F M0 M zy_Ap ∧ zy_x M tx ∧ zT_C M tx e ∧ mm_I M 9 2 = 0 ∧ mm_I M 9 3 = -1 ∧ zQ_H M 2 Q m ∧ zQ_F M F Q m ∧ zQ_V Q m
def zQ_E (M0 M : mm_T) (tx : (Nat → Nat) × Nat) (c p : Nat) : Prop := (zf_F M0 M zy_Ap ∧ ∃ n, n ≤ 12 ∧ mm_I M 2 0 = nI n) ∧ zP_D M tx c (nI p)
section ZQS
variable {M0 M : mm_T} {tx : (Nat → Nat) × Nat} {Q : zp_T} {F : Nat → Nat × Nat} {m e : Nat}
theorem zQ_p (hp0 : zy_p M0) (h : zQ_S M0 M tx Q F m e) : zy_p M := hp0.keep h.1
theorem zQ_ofX (hp0 : zy_p M0) (h : zQ_S M0 M tx Q F m e) {M' : mm_T} {c p : Nat} (x : zP_X M M' tx c (nI p)) (h0 : 0 < c) (h5 : c < 5) : zQ_E M0 M' tx c p := ⟨⟨zf_tr h.1 (zf_mono x.1 (fun a z => by unfold zy_Ap; omega)), zp_nb Q, h.2.2.2.2.2.2.2.1, (zf_i x.1 (by omega) 0).trans h.2.2.2.2.2.1.1⟩, x.d (zQ_p hp0 h) h0 h5⟩
theorem zQ_ofFC (h : zQ_S M0 M tx Q F m e) {M' : mm_T} {e' : Nat} (f : zT_FC M M') (t : zT_C M' tx e') : zQ_S M0 M' tx Q F m e' := ⟨zf_tr h.1 (zf_mono f.1 (fun a z => by unfold zy_Ap; omega)), zT_xk h.2.1 f, t, (f.2 2 (by omega)).trans h.2.2.2.1, (f.2 3 (by omega)).trans h.2.2.2.2.1, h.2.2.2.2.2.1.keep (fun a q1 q2 k => zf_i f.1 (by omega) k), fun b hb => by rw [zf_i f.1 (by omega), zf_i f.1 (by omega)]; exact h.2.2.2.2.2.2.1 b hb, h.2.2.2.2.2.2.2⟩
theorem zQ_EX {c p : Nat} (h : zQ_E M0 M tx c p) {M' : mm_T} (x : zP_X M M' tx c (nI p)) : zQ_E M0 M' tx c p := ⟨⟨zf_tr h.1.1 (zf_mono x.1 (fun a z => by unfold zy_Ap; omega)), h.1.2.imp fun n z => ⟨z.1, (zf_i x.1 (by omega) 0).trans z.2⟩⟩, x.d h.2.1 h.2.2.2.2.2.2.1 h.2.2.2.2.2.2.2⟩
/-- elsewhere than in the parser's own cell and the text -/
theorem zQ_Ek {c p : Nat} (h : zQ_E M0 M tx c p) {M' : mm_T} {A : Nat → Prop} (f : zf_F M M' A) (hA : ∀ a, A a → (2 ≤ a ∧ a ≤ 8) ∨ a = 11 ∨ a = 12) (h20 : mm_I M' 2 0 = mm_I M 2 0) : zQ_E M0 M' tx c p := by
  obtain ⟨⟨h1, n, n12, hn⟩, hp, hx, ⟨e, hT⟩, h2, h3, h4⟩ := h
  have n9 : ¬ A 9 := fun z => by have := hA 9 z; omega
  have n10 : ¬ A 10 := fun z => by have := hA 10 z; omega
  exact ⟨⟨zf_tr h1 (zf_mono f (fun a z => by have := hA a z; unfold zy_Ap; omega)), n, n12, h20.trans hn⟩, hp.keep f, ⟨(zf_i f n9 1).trans hx.1, hx.2.1, fun i hi => ⟨(zf_i f n10 i).trans (hx.2.2 i hi).1, (hx.2.2 i hi).2⟩⟩, ⟨e, hT.1, (zf_i f n9 4).trans hT.2.1, (zf_i f n9 5).trans hT.2.2.1, (zf_i f n9 6).trans hT.2.2.2.1, (zf_i f n9 7).trans hT.2.2.2.2⟩, (zf_i f n9 2).trans h2, (zf_i f n9 3).trans h3, h4⟩
theorem zQ_Sk (h : zQ_S M0 M tx Q F m e) {M' : mm_T} {A : Nat → Prop} (f : zf_F M M' A) (hA : ∀ a, A a → (2 ≤ a ∧ a ≤ 8) ∨ a = 11 ∨ a = 12) {Q' : zp_T} {F' : Nat → Nat × Nat} {m' : Nat} (hH : zQ_H M' 2 Q' m') (hF : zQ_F M' F' Q' m') (hV : zQ_V Q' m') : zQ_S M0 M' tx Q' F' m' e := by
  obtain ⟨h1, hx, hT, h2, h3, _⟩ := h
  have n9 : ¬ A 9 := fun z => by have := hA 9 z; omega
  have n10 : ¬ A 10 := fun z => by have := hA 10 z; omega
  exact ⟨zf_tr h1 (zf_mono f (fun a z => by have := hA a z; unfold zy_Ap; omega)), ⟨(zf_i f n9 1).trans hx.1, hx.2.1, fun i hi => ⟨(zf_i f n10 i).trans (hx.2.2 i hi).1, (hx.2.2 i hi).2⟩⟩, ⟨hT.1, (zf_i f n9 4).trans hT.2.1, (zf_i f n9 5).trans hT.2.2.1, (zf_i f n9 6).trans hT.2.2.2.1, (zf_i f n9 7).trans hT.2.2.2.2⟩, (zf_i f n9 2).trans h2, (zf_i f n9 3).trans h3, hH, hF, hV⟩
def zQ_1 (M0 : mm_T) (tx : (Nat → Nat) × Nat) (F : Nat → Nat × Nat) (m : Nat) (r : (zp_T × Nat) ⊕ zT_R) (M' : mm_T) : Prop := match r with
  | .inl a => zQ_S M0 M' tx a.1 F m a.2
  | .inr a => zQ_E M0 M' tx a.1 a.2
/-- the semicolon -/
theorem zQ_sem (hp0 : zy_p M0) (h : zQ_S M0 M tx Q F m e) : ∃ M', ff_S_takeSemicolon 9 M = some M' ∧ zQ_1 M0 tx F m (zT_bind (zT_sem tx e) fun e' => .inl (Q, e')) M' := by
  have r := zP_sem (zQ_p hp0 h) h.2.1 h.2.2.1 h.2.2.2.1
  cases er : zT_sem tx e with
  | inl e' =>
    rw [er] at r
    obtain ⟨M', e1, f1, t1⟩ := r
    exact ⟨M', e1, zQ_ofFC h f1 t1⟩
  | inr a =>
    have h5 : 0 < a.1 ∧ a.1 < 5 := by
      unfold zT_sem at er
      split at er
      · cases er
      · cases er; exact ⟨by show 0 < 1; omega, by show 1 < 5; omega⟩
    rw [er] at r
    obtain ⟨M', e1, x1⟩ := r
    exact ⟨M', e1, zQ_ofX hp0 h x1 h5.1 h5.2⟩
theorem zQ_semE {c p : Nat} (h : zQ_E M0 M tx c p) : ∃ M', ff_S_takeSemicolon 9 M = some M' ∧ zQ_E M0 M' tx c p := by
  obtain ⟨M', e1, x1⟩ := zP_semD h.2
  exact ⟨M', e1, zQ_EX h x1⟩
theorem zT_var_er {e : Nat} {a : zT_R} (h : zT_var tx e = .inr a) : 0 < a.1 ∧ a.1 < 5 := by
  unfold zT_var at h
  split at h
  · cases h
  · cases h; exact ⟨by show 0 < 1; omega, by show 1 < 5; omega⟩
theorem zT_num_er {e k : Nat} {a : zT_R} (h : zT_num tx k e = .inr a) : 0 < a.1 ∧ a.1 < 5 := by
  unfold zT_num at h
  split at h
  · split at h
    · cases h
    · cases h; exact ⟨by show 0 < 2; omega, by show 2 < 5; omega⟩
  · cases h; exact ⟨by show 0 < 1; omega, by show 1 < 5; omega⟩
theorem zT_opr_er {e : Nat} {a : zT_R} (h : zT_opr tx e = .inr a) : 0 < a.1 ∧ a.1 < 5 := by
  unfold zT_opr at h
  split at h
  · cases h
  · split at h
    · cases h
    · split at h
      · cases h
      · cases h; exact ⟨by show 0 < 1; omega, by show 1 < 5; omega⟩
/-- taking with what comes behind, in both outcomes -/
theorem zQ_take {β : Type} {X : Option (Int32 × mm_T)} {r : (Nat × Nat) ⊕ zT_R} (hp0 : zy_p M0) (h : zQ_S M0 M tx Q F m e) (hX : zP_V X M tx r) (her : ∀ a, r = .inr a → 0 < a.1 ∧ a.1 < 5) {K : Int32 → mm_T → Option mm_T} {k : Nat × Nat → β ⊕ zT_R} {G : β ⊕ zT_R → mm_T → Prop} (hok : ∀ a M', r = .inl a → zQ_S M0 M' tx Q F m a.2 → ∃ M2, K (nI a.1) M' = some M2 ∧ G (k a) M2) (hbad : ∀ a w M', r = .inr a → zQ_E M0 M' tx a.1 a.2 → ∃ M2, K w M' = some M2 ∧ G (.inr a) M2) : ∃ M2, bd_2 X K = some M2 ∧ G (zT_bind r k) M2 := by
  unfold bd_2
  cases r with
  | inl a =>
    obtain ⟨M', e1, f1, t1⟩ := hX
    obtain ⟨M2, e2, g2⟩ := hok a M' rfl (zQ_ofFC h f1 t1)
    rw [e1, Option.bind_some]
    exact ⟨M2, e2, g2⟩
  | inr a =>
    obtain ⟨w, M', e1, x1⟩ := hX
    have h5 := her a rfl
    obtain ⟨M2, e2, g2⟩ := hbad a w M' rfl (zQ_ofX hp0 h x1 h5.1 h5.2)
    rw [e1, Option.bind_some]
    exact ⟨M2, e2, g2⟩
theorem zQ_takeE {c p : Nat} {X : Option (Int32 × mm_T)} (h : zQ_E M0 M tx c p) (hX : ∃ w M', X = some (w, M') ∧ zP_X M M' tx c (nI p)) {K : Int32 → mm_T → Option mm_T} {G : mm_T → Prop} (hbad : ∀ w M', zQ_E M0 M' tx c p → ∃ M2, K w M' = some M2 ∧ G M2) : ∃ M2, bd_2 X K = some M2 ∧ G M2 := by
  obtain ⟨w, M', e1, x1⟩ := hX
  obtain ⟨M2, e2, g2⟩ := hbad w M' (zQ_EX h x1)
  unfold bd_2
  rw [e1, Option.bind_some]
  exact ⟨M2, e2, g2⟩
theorem zQ_kindC (hp : zy_p M) (hx : zy_x M tx) (hT : zT_C M tx e) : ff_S_instructionKind 9 M = some (zo_N (zT_kh tx e)) := by
  unfold ff_S_instructionKind zT_kh
  rw [zq_gd (zP_e9 hp)]
  simp only [zT_isWC hp hx hT (show 2 < 31 by omega), zT_isWC hp hx hT (show 3 < 31 by omega), zT_isWC hp hx hT (show 4 < 31 by omega), zT_isWC hp hx hT (show 5 < 31 by omega), Option.bind_some, zb_0, decide_eq_false_iff_not]
  by_cases c2 : zT_W tx e 2
  · rw [if_neg (fun z => z c2), if_pos c2]; rfl
  · rw [if_pos c2, if_neg c2]
    by_cases c3 : zT_W tx e 3
    · rw [if_neg (fun z => z c3), if_pos c3]; rfl
    · rw [if_pos c3, if_neg c3]
      by_cases c4 : zT_W tx e 4
      · rw [if_neg (fun z => z c4), if_pos c4]; rfl
      · rw [if_pos c4, if_neg c4]
        by_cases c5 : zT_W tx e 5
        · rw [if_neg (fun z => z c5), if_pos c5]; rfl
        · rw [if_pos c5, if_neg c5]; rfl
/-- the head of a block -/
theorem zQ_head (hp0 : zy_p M0) (hP0 : zo_P M0 2) (h : zQ_S M0 M tx Q F m e) : ∃ M', ((ff_S_parseHead 9 2 M).bind fun M10 => ff_S_takeSemicolon 9 M10) = some M' ∧ zQ_1 M0 tx F m (zT_head tx Q e) M' := by
  have hp := zQ_p hp0 h
  have hP := hP0.keep h.1
  have hV := h.2.2.2.2.2.2.2
  have h12 := hV.1
  have e9 := zP_e9 hp
  have hH := h.2.2.2.2.2.1
  unfold ff_S_parseHead zT_head
  rw [zq_gd e9, zT_isWC hp h.2.1 h.2.2.1 (show 1 < 31 by omega), Option.bind_some]
  simp only [zb_0, decide_eq_false_iff_not]
  by_cases c1 : zT_W tx e 1
  · rw [if_neg (fun z => z c1), if_pos c1, zg_I (zo_e hP), Option.bind_some, hH.1]
    by_cases c2 : zp_nb Q < 12
    · rw [if_pos (show nI (zp_nb Q) < (12 : Int32) from nI_lt (b := 12) c2 (by omega)), if_pos c2]
      obtain ⟨M1, e1, f1, h1⟩ := zQ_addC hP hH hV c2
      have S1 : zQ_S M0 M1 tx (zQ_add Q) F m e := zQ_Sk h f1 (fun a z => by unfold zo_A at z; omega) h1 (fun b hb => by rw [zf_i f1 (by unfold zo_A; omega), zf_i f1 (by unfold zo_A; omega)]; exact h.2.2.2.2.2.2.1 b hb) (zQ_add_V hV c2)
      obtain ⟨M2, e2, f2, t2⟩ := zT_readC' (zQ_p hp0 S1) S1.2.1 S1.2.2.1
      have S2 := zQ_ofFC S1 f2 t2
      obtain ⟨M3, e3, r3⟩ := zQ_sem hp0 S2
      rw [e1, Option.bind_some, e2, Option.bind_some, Option.bind_some, e3]
      refine ⟨M3, rfl, ?_⟩
      cases es : zT_sem tx (zT_e tx e) with
      | inl a => rw [es] at r3; exact r3
      | inr a => rw [es] at r3; exact r3
    · obtain ⟨M1, e1, x1⟩ := zP_fail hp h.2.1 h.2.2.1 h.2.2.2.1 3 (zT_s' tx e)
      have e1' : ff_S_fail 9 3 (nI (zT_s' tx e)) M = some M1 := e1
      obtain ⟨M2, e2, g2⟩ := zQ_semE (zQ_ofX hp0 h x1 (by omega) (by omega))
      rw [if_neg (show ¬ nI (zp_nb Q) < (12 : Int32) from nI_nlt (b := 12) (by omega) (by omega)), if_neg c2, zg_I e9, Option.bind_some, h.2.2.1.2.2.1, e1', Option.bind_some, Option.bind_some, e2]
      exact ⟨M2, rfl, g2⟩
  · obtain ⟨M1, e1, x1⟩ := zP_fail hp h.2.1 h.2.2.1 h.2.2.2.1 1 (zT_s' tx e)
    have e1' : ff_S_fail 9 1 (nI (zT_s' tx e)) M = some M1 := e1
    obtain ⟨M2, e2, g2⟩ := zQ_semE (zQ_ofX hp0 h x1 (by omega) (by omega))
    rw [if_pos c1, if_neg c1, zg_I e9, Option.bind_some, h.2.2.1.2.2.1, e1', Option.bind_some, Option.bind_some, e2]
    exact ⟨M2, rfl, g2⟩
/-- an instruction, the semicolon apart -/
def zQ_2 (M0 : mm_T) (tx : (Nat → Nat) × Nat) (Q : zp_T) (F : Nat → Nat × Nat) (m : Nat) (r : ((Nat × Nat × Nat × Nat × Nat) × Nat) ⊕ zT_R) (M' : mm_T) : Prop := match r with
  | .inl a => zQ_S M0 M' tx (zQ_app Q a.1) F m a.2
  | .inr a => zQ_E M0 M' tx a.1 a.2
theorem zQ_lay (hp0 : zy_p M0) (hP0 : zo_P M0 2) (h : zQ_S M0 M tx Q F m e) (h40 : zp_ni Q < 40) (hnb : 1 ≤ zp_nb Q) {q : Nat × Nat × Nat × Nat × Nat} (hq : zp_iok q) {w : Int32} (hw : w = nI (zp_W q)) : ∃ M', ((gf_I M 9 6 2).bind fun x8 => if x8 = 0 then ((some w).bind fun x9 => (ff_P_append 2 x9 M).bind fun M7 => some M7) else some M) = some M' ∧ zQ_S M0 M' tx (zQ_app Q q) F m e := by
  have hp := zQ_p hp0 h
  have hP := hP0.keep h.1
  obtain ⟨M1, e1, f1, h1⟩ := zQ_appC hP h.2.2.2.2.2.1 h.2.2.2.2.2.2.2 h40 q
  rw [zg_I (zP_e9 hp), Option.bind_some, h.2.2.2.1, if_pos rfl, Option.bind_some, hw, e1, Option.bind_some]
  exact ⟨M1, rfl, zQ_Sk h f1 (fun a z => by unfold zo_A at z; omega) h1 (fun b hb => by rw [zf_i f1 (by unfold zo_A; omega), zf_i f1 (by unfold zo_A; omega)]; exact h.2.2.2.2.2.2.1 b hb) (zQ_app_V h.2.2.2.2.2.2.2 hq h40 hnb)⟩
theorem zQ_layE {c p : Nat} (h : zQ_E M0 M tx c p) (X : Option Int32) (K : Int32 → Option mm_T) : ∃ M', ((gf_I M 9 6 2).bind fun x8 => if x8 = 0 then (X.bind K) else some M) = some M' ∧ zQ_E M0 M' tx c p := by
  rw [zg_I (zP_e9 h.2.1), Option.bind_some, if_neg h.2.ne]
  exact ⟨M, rfl, h⟩
theorem zQ_instr (hp0 : zy_p M0) (hP0 : zo_P M0 2) (h : zQ_S M0 M tx Q F m e) (hnb : 1 ≤ zp_nb Q) {kd : Nat} (hkd : zT_kh tx e = some kd) : ∃ M', ((ff_S_parseInstruction 9 2 M).bind fun M9 => ff_S_takeSemicolon 9 M9) = some M' ∧ zQ_1 M0 tx F m (zT_item tx Q e kd) M' := by
  have hp := zQ_p hp0 h
  have hP := hP0.keep h.1
  have hV := h.2.2.2.2.2.2.2
  have hni := hV.2.1
  have e9 := zP_e9 hp
  have hH := h.2.2.2.2.2.1
  have hk3 : kd ≤ 3 := by
    unfold zT_kh at hkd
    split at hkd
    · cases hkd; omega
    · split at hkd
      · cases hkd; omega
      · split at hkd
        · cases hkd; omega
        · split at hkd
          · cases hkd; omega
          · cases hkd
  -- without the semicolon
  suffices inner : zp_ni Q < 40 → ∃ M', ff_S_parseInstruction 9 2 M = some M' ∧ zQ_2 M0 tx Q F m (zT_ins tx kd (zT_e tx e)) M' by
    unfold zT_item
    by_cases c40 : zp_ni Q < 40
    · obtain ⟨M1, e1, g1⟩ := inner c40
      rw [if_pos c40, e1, Option.bind_some]
      cases er : zT_ins tx kd (zT_e tx e) with
      | inl a =>
        rw [er] at g1
        obtain ⟨M2, e2, g2⟩ := zQ_sem hp0 (Q := zQ_app Q a.1) g1
        exact ⟨M2, e2, g2⟩
      | inr a =>
        rw [er] at g1
        obtain ⟨M2, e2, g2⟩ := zQ_semE (c := a.1) (p := a.2) g1
        exact ⟨M2, e2, g2⟩
    · obtain ⟨M1, e1, x1⟩ := zP_fail hp h.2.1 h.2.2.1 h.2.2.2.1 3 (zT_s' tx e)
      have e1' : ff_S_fail 9 3 (nI (zT_s' tx e)) M = some M1 := e1
      obtain ⟨M2, e2, g2⟩ := zQ_semE (zQ_ofX hp0 h x1 (by omega) (by omega))
      have ef : ff_P_isFull 2 M = some 1 := by
        unfold ff_P_isFull
        rw [zq_gd (zo_e hP), zg_I (zo_e hP), Option.bind_some, hH.2.1, if_neg (show ¬ nI (zp_ni Q) < (40 : Int32) from nI_nlt (b := 40) (by omega) (by omega))]
      unfold ff_S_parseInstruction
      rw [if_neg c40, zq_gd e9, ef, Option.bind_some, if_neg (by decide), zg_I e9, Option.bind_some, h.2.2.1.2.2.1, e1', Option.bind_some, Option.bind_some, e2]
      exact ⟨M2, rfl, g2⟩
  intro c40
  have ef : ff_P_isFull 2 M = some 0 := by
    unfold ff_P_isFull
    rw [zq_gd (zo_e hP), zg_I (zo_e hP), Option.bind_some, hH.2.1, if_pos (show nI (zp_ni Q) < (40 : Int32) from nI_lt (b := 40) c40 (by omega))]
  obtain ⟨M1, e1, f1, t1⟩ := zT_readC' hp h.2.1 h.2.2.1
  have S1 := zQ_ofFC h f1 t1
  unfold ff_S_parseInstruction
  rw [zq_gd e9, ef, Option.bind_some, if_pos rfl, zQ_kindC hp h.2.1 h.2.2.1, hkd, Option.bind_some, e1, Option.bind_some]
  simp only [zq_jp, zo_some]
  unfold zT_ins
  rcases (show kd = 0 ∨ kd = 1 ∨ kd = 2 ∨ kd = 3 by omega) with z | z | z | z
  · subst z
    simp only [show ¬ nI 0 = (3 : Int32) by decide, show nI 0 = (0 : Int32) from rfl, show ¬ (0 : Int32) = 2 by decide, if_true, if_false]
    rw [if_neg (by decide)]
    refine zQ_take hp0 S1 (zP_var (zQ_p hp0 S1) S1.2.1 S1.2.2.1 S1.2.2.2.1) (fun a => zT_var_er) (G := zQ_2 M0 tx Q F m) (fun a Ma ha Sa => ?_) (fun a w Ma ha Ea => ?_)
    · refine zQ_take hp0 Sa (zP_num (m := 999) (zQ_p hp0 Sa) Sa.2.1 Sa.2.2.1 Sa.2.2.2.1 (by omega)) (fun a => zT_num_er) (G := zQ_2 M0 tx Q F m) (fun b Mb hb Sb => ?_) (fun b w Mb hb Eb => ?_)
      · have oa := zT_var_ok S1.2.2.1.1 ha
        have ob := zT_num_ok Sa.2.2.1.1 hb
        have pk := zc_pack (k := 0) (t := a.1) (l := 0) (o := 0) (r := 0) (c := b.1) (by omega) oa.1 (by omega) (by omega) (by omega) Mb
        have hh := zQ_lay hp0 hP0 Sb c40 hnb (q := (0, a.1, b.1, 0, 0)) (zp_iok_set oa.1 (by omega)) (w := nI (0 + 4 * a.1 + 32 * 0 + 256 * 0 + 2048 * 0 + 8192 * b.1)) (by
          unfold zp_W
          rw [if_pos rfl]
          congr 1
          show 0 + 4 * a.1 + 32 * 0 + 256 * 0 + 2048 * 0 + 8192 * b.1 = 4 * a.1 + 8192 * b.1
          omega)
        rw [← pk] at hh
        exact hh
      · exact zQ_layE Eb _ _
    · exact zQ_takeE Ea (zP_numD Ea.2 999) (fun w Mb Eb => zQ_layE Eb _ _)
  · subst z
    simp only [show ¬ nI 1 = (3 : Int32) by decide, show ¬ nI 1 = (0 : Int32) by decide, show ¬ nI 1 = (2 : Int32) by decide, if_true, if_false]
    rw [if_neg (by omega)]
    refine zQ_take hp0 S1 (zP_var (zQ_p hp0 S1) S1.2.1 S1.2.2.1 S1.2.2.2.1) (fun a => zT_var_er) (G := zQ_2 M0 tx Q F m) (fun a Ma ha Sa => ?_) (fun a w Ma ha Ea => ?_)
    · refine zQ_take hp0 Sa (zP_var (zQ_p hp0 Sa) Sa.2.1 Sa.2.2.1 Sa.2.2.2.1) (fun a => zT_var_er) (G := zQ_2 M0 tx Q F m) (fun b Mb hb Sb => ?_) (fun b w Mb hb Eb => ?_)
      · have oa := zT_var_ok S1.2.2.1.1 ha
        have ob := zT_var_ok Sa.2.2.1.1 hb
        have pk := zc_pack (k := 1) (t := a.1) (l := b.1) (o := 0) (r := 0) (c := 0) (by omega) oa.1 ob.1 (by omega) (by omega) Mb
        have hh := zQ_lay hp0 hP0 Sb c40 hnb (q := (1, a.1, b.1, 0, 0)) (zp_iok_move oa.1 ob.1) (w := nI (1 + 4 * a.1 + 32 * b.1 + 256 * 0 + 2048 * 0 + 8192 * 0)) (by
          unfold zp_W
          rw [if_neg (show ¬ (1 : Nat) = 0 by omega)]
          congr 1)
        rw [← pk] at hh
        exact hh
      · exact zQ_layE Eb _ _
    · exact zQ_takeE Ea (zP_varD Ea.2) (fun w Mb Eb => zQ_layE Eb _ _)
  · subst z
    simp only [show ¬ nI 2 = (3 : Int32) by decide, show ¬ nI 2 = (0 : Int32) by decide, show nI 2 = (2 : Int32) from rfl, show ¬ (2 : Int32) = 3 by decide, show ¬ (2 : Int32) = 0 by decide, if_true, if_false]
    rw [if_neg (by omega), if_neg (by omega)]
    refine zQ_take hp0 S1 (zP_var (zQ_p hp0 S1) S1.2.1 S1.2.2.1 S1.2.2.2.1) (fun a => zT_var_er) (G := zQ_2 M0 tx Q F m) (fun a Ma ha Sa => ?_) (fun a w Ma ha Ea => ?_)
    · refine zQ_take hp0 Sa (zP_var (zQ_p hp0 Sa) Sa.2.1 Sa.2.2.1 Sa.2.2.2.1) (fun a => zT_var_er) (G := zQ_2 M0 tx Q F m) (fun b Mb hb Sb => ?_) (fun b w Mb hb Eb => ?_)
      · refine zQ_take hp0 Sb (zP_opr (zQ_p hp0 Sb) Sb.2.1 Sb.2.2.1 Sb.2.2.2.1) (fun a => zT_opr_er) (G := zQ_2 M0 tx Q F m) (fun c Mc hc Sc => ?_) (fun c w Mc hc Ec => ?_)
        · refine zQ_take hp0 Sc (zP_var (zQ_p hp0 Sc) Sc.2.1 Sc.2.2.1 Sc.2.2.2.1) (fun a => zT_var_er) (G := zQ_2 M0 tx Q F m) (fun d Md hd Sd => ?_) (fun d w Md hd Ed => ?_)
          · have oa := zT_var_ok S1.2.2.1.1 ha
            have ob := zT_var_ok Sa.2.2.1.1 hb
            have oc := zT_opr_ok Sb.2.2.1.1 hc
            have od := zT_var_ok Sc.2.2.1.1 hd
            have pk := zc_pack (k := 2) (t := a.1) (l := b.1) (o := c.1) (r := d.1) (c := 0) (by omega) oa.1 ob.1 (by omega) od.1 Md
            have hh := zQ_lay hp0 hP0 Sd c40 hnb (q := (2, a.1, b.1, c.1, d.1)) (zp_iok_calc oa.1 ob.1 oc.1 od.1) (w := nI (2 + 4 * a.1 + 32 * b.1 + 256 * d.1 + 2048 * c.1 + 8192 * 0)) (by
              unfold zp_W
              rw [if_neg (show ¬ (2 : Nat) = 0 by omega)]
              congr 1)
            rw [← pk] at hh
            exact hh
          · exact zQ_layE Ed _ _
        · exact zQ_takeE Ec (zP_varD Ec.2) (fun w Md Ed => zQ_layE Ed _ _)
      · exact zQ_takeE Eb (zP_oprD Eb.2) (fun w Mc Ec => zQ_takeE Ec (zP_varD Ec.2) (fun w Md Ed => zQ_layE Ed _ _))
    · exact zQ_takeE Ea (zP_varD Ea.2) (fun w Mb Eb => zQ_takeE Eb (zP_oprD Eb.2) (fun w Mc Ec => zQ_takeE Ec (zP_varD Ec.2) (fun w Md Ed => zQ_layE Ed _ _)))
  · subst z
    simp only [show nI 3 = (3 : Int32) from rfl, show ¬ (3 : Int32) = 0 by decide, show ¬ (3 : Int32) = 2 by decide, if_true, if_false]
    rw [if_neg (by omega), if_neg (by omega), if_neg (by omega)]
    refine zQ_take hp0 S1 (zP_var (zQ_p hp0 S1) S1.2.1 S1.2.2.1 S1.2.2.2.1) (fun a => zT_var_er) (G := zQ_2 M0 tx Q F m) (fun a Ma ha Sa => ?_) (fun a w Ma ha Ea => ?_)
    · have oa := zT_var_ok S1.2.2.1.1 ha
      have pk := zc_pack (k := 3) (t := 0) (l := a.1) (o := 0) (r := 0) (c := 0) (by omega) (by omega) oa.1 (by omega) (by omega) Ma
      have hh := zQ_lay hp0 hP0 Sa c40 hnb (q := (3, 0, a.1, 0, 0)) (zp_iok_show oa.1) (w := nI (3 + 4 * 0 + 32 * a.1 + 256 * 0 + 2048 * 0 + 8192 * 0)) (by
        unfold zp_W
        rw [if_neg (show ¬ (3 : Nat) = 0 by omega)]
        congr 1)
      rw [← pk] at hh
      exact hh
    · exact zQ_layE Ea _ _
end ZQS
