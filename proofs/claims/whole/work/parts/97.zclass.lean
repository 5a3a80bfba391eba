/-! ===== the class: its layout, what its analyses hold, one question ===== -/
def zk_D (M : mm_T) : Prop := mm_k M 1 = (10, 0) ∧ (mm_R M 1 0 = 45 ∧ mm_R M 1 1 = 2 ∧ mm_R M 1 2 = 9 ∧ mm_R M 1 3 = 13 ∧ mm_R M 1 4 = 15 ∧ mm_R M 1 5 = 17 ∧ mm_R M 1 6 = 18 ∧ mm_R M 1 7 = 24 ∧ mm_R M 1 8 = 28 ∧ mm_R M 1 9 = 31 ∧ mm_R M 1 10 = 35 ∧ mm_R M 1 11 = 38)
theorem zk_D.keepL {M M' : mm_T} {A : Nat → Prop} (h : zk_D M) (hf : zf_L M M' A) : zk_D M' := by
  unfold zk_D
  simp only [zl_k hf, zl_R hf, Nat.reduceLeDiff]
  exact h
theorem zk_G.keepL {M M' : mm_T} {A : Nat → Prop} (h : zk_G M) (hf : zf_L M M' A) : zk_G M' := by
  unfold zk_G
  simp only [zl_k hf, zl_R hf, Nat.reduceLeDiff]
  exact h
theorem zk_R.keepL {M M' : mm_T} {A : Nat → Prop} (h : zk_R M) (hf : zf_L M M' A) : zk_R M' := by
  unfold zk_R
  simp only [zl_k hf, zl_R hf, Nat.reduceLeDiff]
  exact h
theorem zk_L.keepL {M M' : mm_T} {A : Nat → Prop} (h : zk_L M) (hf : zf_L M M' A) : zk_L M' := by
  unfold zk_L
  simp only [zl_k hf, zl_R hf, Nat.reduceLeDiff]
  exact h
theorem zk_A.keepL {M M' : mm_T} {A : Nat → Prop} (h : zk_A M) (hf : zf_L M M' A) : zk_A M' := by
  unfold zk_A
  simp only [zl_k hf, zl_R hf, Nat.reduceLeDiff]
  exact h
theorem zk_C.keepL {M M' : mm_T} {A : Nat → Prop} (h : zk_C M) (hf : zf_L M M' A) : zk_C M' := by
  unfold zk_C
  simp only [zl_k hf, zl_R hf, Nat.reduceLeDiff]
  exact h
theorem zo_P.keepL {M M' : mm_T} {A : Nat → Prop} {t : Nat} (h : zo_P M t) (ht : t ≤ 57) (hf : zf_L M M' A) : zo_P M' t := by
  obtain ⟨h1, ⟨a1, a2, a3, a4, a5, a6⟩, h2, h3, h4, h5, h6, h7⟩ := h
  exact ⟨(zl_k hf t (by omega)).trans h1, ⟨(zl_R hf t (by omega) 2).trans a1, (zl_R hf t (by omega) 3).trans a2, (zl_R hf t (by omega) 4).trans a3, (zl_R hf t (by omega) 5).trans a4, (zl_R hf t (by omega) 6).trans a5, (zl_R hf t (by omega) 7).trans a6⟩, (zl_k hf (t + 1) (by omega)).trans h2, (zl_k hf (t + 2) (by omega)).trans h3, (zl_k hf (t + 3) (by omega)).trans h4, (zl_k hf (t + 4) (by omega)).trans h5, (zl_k hf (t + 5) (by omega)).trans h6, (zl_k hf (t + 6) (by omega)).trans h7⟩
theorem zd_G.keepL {M M' : mm_T} {A : Nat → Prop} {P : zp_T} (h : zd_G M P) (hf : zf_L M M' A) (hA : ∀ a, A a → a < 18 ∨ 23 < a) : zd_G M' P := by
  have e : ∀ a, 18 ≤ a → a ≤ 23 → ∀ j, mm_I M' a j = mm_I M a j := fun a h1 h2 => zl_i hf (by omega) (fun q => by have := hA a q; omega)
  unfold zd_G zg_Pre
  simp only [e 18 (by omega) (by omega), e 20 (by omega) (by omega), e 21 (by omega) (by omega), e 22 (by omega) (by omega), e 23 (by omega) (by omega)]
  exact h
theorem zd_R.keepL {M M' : mm_T} {A : Nat → Prop} {P : zp_T} (h : zd_R M P) (hf : zf_L M M' A) (hA : ∀ a, A a → a < 24 ∨ 27 < a) : zd_R M' P := by
  have e : ∀ a, 24 ≤ a → a ≤ 27 → ∀ j, mm_I M' a j = mm_I M a j := fun a h1 h2 => zl_i hf (by omega) (fun q => by have := hA a q; omega)
  have e2 : ∀ a, 24 ≤ a → a ≤ 27 → ∀ j, mm_J M' a j = mm_J M a j := fun a h1 h2 => zl_j hf (by omega) (fun q => by have := hA a q; omega)
  unfold zd_R zd_O
  simp only [e2 25 (by omega) (by omega), e 26 (by omega) (by omega), e2 27 (by omega) (by omega)]
  exact h
theorem zd_L.keepL {M M' : mm_T} {A : Nat → Prop} {P : zp_T} (h : zd_L M P) (hf : zf_L M M' A) (hA : ∀ a, A a → a < 28 ∨ 30 < a) : zd_L M' P := by
  have e : ∀ a, 28 ≤ a → a ≤ 30 → ∀ j, mm_I M' a j = mm_I M a j := fun a h1 h2 => zl_i hf (by omega) (fun q => by have := hA a q; omega)
  unfold zd_L
  simp only [e 29 (by omega) (by omega), e 30 (by omega) (by omega)]
  exact h
theorem zd_V.keepL {M M' : mm_T} {A : Nat → Prop} {P : zp_T} (h : zd_V M P) (hf : zf_L M M' A) (hA : ∀ a, A a → a < 31 ∨ 34 < a) : zd_V M' P := by
  have e : ∀ a, 31 ≤ a → a ≤ 34 → ∀ j, mm_I M' a j = mm_I M a j := fun a h1 h2 => zl_i hf (by omega) (fun q => by have := hA a q; omega)
  have e2 : ∀ a, 31 ≤ a → a ≤ 34 → ∀ j, mm_J M' a j = mm_J M a j := fun a h1 h2 => zl_j hf (by omega) (fun q => by have := hA a q; omega)
  unfold zd_V zv_N
  simp only [e 32 (by omega) (by omega), e2 33 (by omega) (by omega), e2 34 (by omega) (by omega)]
  exact h
theorem zd_C.keepL {M M' : mm_T} {A : Nat → Prop} {P : zp_T} (h : zd_C M P) (hf : zf_L M M' A) (hA : ∀ a, A a → a < 35 ∨ 37 < a) : zd_C M' P := by
  have e : ∀ a, 35 ≤ a → a ≤ 37 → ∀ j, mm_I M' a j = mm_I M a j := fun a h1 h2 => zl_i hf (by omega) (fun q => by have := hA a q; omega)
  have eF : zn_F M' = zn_F M := by
    funext p v
    unfold zn_F
    rw [e 36 (by omega) (by omega)]
  unfold zd_C
  simp only [eF, e 37 (by omega) (by omega)]
  exact h
/-- the class as a question finds it -/
def zc_Q (M : mm_T) (P : zp_T) : Prop := zk_D M ∧ (zo_P M 45 ∧ zo_H M 45 P ∧ zp_V P) ∧ (zk_G M ∧ zk_R M ∧ zk_L M ∧ zk_A M ∧ zk_C M) ∧ (mm_I M 18 0 = 0 ∨ (mm_I M 18 0 = 1 ∧ zd_G M P)) ∧ (mm_I M 24 0 = 0 ∨ (mm_I M 24 0 = 1 ∧ zd_R M P)) ∧ (mm_I M 28 0 = 0 ∨ (mm_I M 28 0 = 1 ∧ zd_L M P)) ∧ (mm_I M 31 0 = 0 ∨ (mm_I M 31 0 = 1 ∧ zd_V M P)) ∧ (mm_I M 35 0 = 0 ∨ (mm_I M 35 0 = 1 ∧ zd_C M P))
/-- what questions to the class write -/
def zc_A (a : Nat) : Prop := 18 ≤ a ∧ a ≤ 40
theorem zc_Q.keepL {M M' : mm_T} {A : Nat → Prop} {P : zp_T} (h : zc_Q M P) (hf : zf_L M M' A) (hA : ∀ a, A a → a < 18 ∨ (37 < a ∧ a < 45) ∨ 51 < a) : zc_Q M' P := by
  obtain ⟨h1, ⟨h2, h3, h4⟩, ⟨g1, g2, g3, g4, g5⟩, f1, f2, f3, f4, f5⟩ := h
  have e : ∀ a, (18 ≤ a ∧ a ≤ 37) ∨ (45 ≤ a ∧ a ≤ 51) → ∀ j, mm_I M' a j = mm_I M a j := fun a h1 => zl_i hf (by omega) (fun q => by have := hA a q; omega)
  refine ⟨h1.keepL hf, ⟨h2.keepL (by omega) hf, h3.keep (fun a q1 q2 => e a (by omega)), h4⟩, ⟨g1.keepL hf, g2.keepL hf, g3.keepL hf, g4.keepL hf, g5.keepL hf⟩, ?_, ?_, ?_, ?_, ?_⟩
  · rw [e 18 (by omega)]; exact f1.imp id (fun q => ⟨q.1, q.2.keepL hf (fun a z => by have := hA a z; omega)⟩)
  · rw [e 24 (by omega)]; exact f2.imp id (fun q => ⟨q.1, q.2.keepL hf (fun a z => by have := hA a z; omega)⟩)
  · rw [e 28 (by omega)]; exact f3.imp id (fun q => ⟨q.1, q.2.keepL hf (fun a z => by have := hA a z; omega)⟩)
  · rw [e 31 (by omega)]; exact f4.imp id (fun q => ⟨q.1, q.2.keepL hf (fun a z => by have := hA a z; omega)⟩)
  · rw [e 35 (by omega)]; exact f5.imp id (fun q => ⟨q.1, q.2.keepL hf (fun a z => by have := hA a z; omega)⟩)
section ZCQ
variable {M : mm_T} {P : zp_T}
theorem zc_graph (h : zc_Q M P) : ∃ M', ff_D_graph 1 M = some (18, M') ∧ zf_F M M' zg_A ∧ zc_Q M' P ∧ mm_I M' 18 0 = 1 ∧ zd_G M' P := by
  have h0 := h
  obtain ⟨h1, ⟨h2, h3, h4⟩, ⟨g1, g2, g3, g4, g5⟩, f1, f2, f3, f4, f5⟩ := h
  have e1 : (mm_k M 1).1 = 10 := by rw [h1.1]
  have e18 : (mm_k M 18).1 = 2 := by rw [g1.1]
  unfold ff_D_graph
  simp only [zq_gd e1, zg_R e1, h1.2.2.2.2.2.2.2.1, Option.bind_some, zg_I e18, zq_jp]
  rcases f1 with z | ⟨z, zz⟩
  · rw [if_pos z]
    simp only [h1.2.1, Option.bind_some]
    obtain ⟨M', e, f, d, q⟩ := zg_analyse g1 h2 h3 h4
    have hl := zl_F f
    have n : ∀ a, zg_A a → 18 ≤ a ∧ a ≤ 23 := fun a q => q
    have k1 := h1.keepL hl
    have e1' : (mm_k M' 1).1 = 10 := by rw [k1.1]
    rw [e, Option.bind_some, zg_R e1', Option.bind_some, k1.2.2.2.2.2.2.2.1]
    refine ⟨M', rfl, f, ⟨k1, ⟨h2.keepL (by omega) hl, h3.keep (fun a q1 q2 => zl_i hl (by omega) (fun q => by have := n a q; omega)), h4⟩, ⟨g1.keepL hl, g2.keepL hl, g3.keepL hl, g4.keepL hl, g5.keepL hl⟩, Or.inr ⟨q, d⟩, ?_, ?_, ?_, ?_⟩, q, d⟩
    · rw [zf_i f (by unfold zg_A; omega)]; exact f2.imp id (fun q => ⟨q.1, q.2.keepL hl (fun a z => by have := n a z; omega)⟩)
    · rw [zf_i f (by unfold zg_A; omega)]; exact f3.imp id (fun q => ⟨q.1, q.2.keepL hl (fun a z => by have := n a z; omega)⟩)
    · rw [zf_i f (by unfold zg_A; omega)]; exact f4.imp id (fun q => ⟨q.1, q.2.keepL hl (fun a z => by have := n a z; omega)⟩)
    · rw [zf_i f (by unfold zg_A; omega)]; exact f5.imp id (fun q => ⟨q.1, q.2.keepL hl (fun a z => by have := n a z; omega)⟩)
  · rw [if_neg (by rw [z]; decide)]
    exact ⟨M, rfl, zf_rfl _ _, h0, z, zz⟩
theorem zc_reaching (h : zc_Q M P) : ∃ M', ff_D_reaching 1 M = some (24, M') ∧ zf_F M M' zd_A ∧ zc_Q M' P ∧ zd_R M' P := by
  have h0 := h
  obtain ⟨h1, ⟨h2, h3, h4⟩, ⟨g1, g2, g3, g4, g5⟩, f1, f2, f3, f4, f5⟩ := h
  have e1 : (mm_k M 1).1 = 10 := by rw [h1.1]
  have e18 : (mm_k M 24).1 = 8 := by rw [g2.1]
  unfold ff_D_reaching
  simp only [zq_gd e1, zg_R e1, h1.2.2.2.2.2.2.2.2.1, Option.bind_some, zg_I e18, zq_jp]
  rcases f2 with z | ⟨z, zz⟩
  · rw [if_pos z]
    simp only [h1.2.1, Option.bind_some]
    obtain ⟨M', e, f, d, q⟩ := zd_analyse g2 h2 h3 h4
    have hl := zl_F f
    have n : ∀ a, zd_A a → 24 ≤ a ∧ a ≤ 27 := fun a q => q
    have k1 := h1.keepL hl
    have e1' : (mm_k M' 1).1 = 10 := by rw [k1.1]
    rw [e, Option.bind_some, zg_R e1', Option.bind_some, k1.2.2.2.2.2.2.2.2.1]
    refine ⟨M', rfl, f, ⟨k1, ⟨h2.keepL (by omega) hl, h3.keep (fun a q1 q2 => zl_i hl (by omega) (fun q => by have := n a q; omega)), h4⟩, ⟨g1.keepL hl, g2.keepL hl, g3.keepL hl, g4.keepL hl, g5.keepL hl⟩, ?_, Or.inr ⟨q, d⟩, ?_, ?_, ?_⟩, d⟩
    · rw [zf_i f (by unfold zd_A; omega)]; exact f1.imp id (fun q => ⟨q.1, q.2.keepL hl (fun a z => by have := n a z; omega)⟩)
    · rw [zf_i f (by unfold zd_A; omega)]; exact f3.imp id (fun q => ⟨q.1, q.2.keepL hl (fun a z => by have := n a z; omega)⟩)
    · rw [zf_i f (by unfold zd_A; omega)]; exact f4.imp id (fun q => ⟨q.1, q.2.keepL hl (fun a z => by have := n a z; omega)⟩)
    · rw [zf_i f (by unfold zd_A; omega)]; exact f5.imp id (fun q => ⟨q.1, q.2.keepL hl (fun a z => by have := n a z; omega)⟩)
  · rw [if_neg (by rw [z]; decide)]
    exact ⟨M, rfl, zf_rfl _ _, h0, zz⟩
theorem zc_liveness (h : zc_Q M P) : ∃ M', ff_D_liveness 1 M = some (28, M') ∧ zf_F M M' ze_A ∧ zc_Q M' P ∧ zd_L M' P := by
  have h0 := h
  obtain ⟨h1, ⟨h2, h3, h4⟩, ⟨g1, g2, g3, g4, g5⟩, f1, f2, f3, f4, f5⟩ := h
  have e1 : (mm_k M 1).1 = 10 := by rw [h1.1]
  have e18 : (mm_k M 28).1 = 4 := by rw [g3.1]
  unfold ff_D_liveness
  simp only [zq_gd e1, zg_R e1, h1.2.2.2.2.2.2.2.2.2.1, Option.bind_some, zg_I e18, zq_jp]
  rcases f3 with z | ⟨z, zz⟩
  · rw [if_pos z]
    simp only [h1.2.1, Option.bind_some]
    obtain ⟨M', e, f, d, q⟩ := ze_analyse g3 h2 h3 h4
    have hl := zl_F f
    have n : ∀ a, ze_A a → 28 ≤ a ∧ a ≤ 30 := fun a q => by unfold ze_A at q; omega
    have k1 := h1.keepL hl
    have e1' : (mm_k M' 1).1 = 10 := by rw [k1.1]
    rw [e, Option.bind_some, zg_R e1', Option.bind_some, k1.2.2.2.2.2.2.2.2.2.1]
    have out : ∀ a, a < 28 ∨ 30 < a → ¬ ze_A a := fun a ha q => by have := n a q; omega
    refine ⟨M', rfl, f, ⟨k1, ⟨h2.keepL (by omega) hl, h3.keep (fun a q1 q2 => zl_i hl (by omega) (fun q => by have := n a q; omega)), h4⟩, ⟨g1.keepL hl, g2.keepL hl, g3.keepL hl, g4.keepL hl, g5.keepL hl⟩, ?_, ?_, Or.inr ⟨q, d⟩, ?_, ?_⟩, d⟩
    · rw [zf_i f (out _ (by omega))]; exact f1.imp id (fun q => ⟨q.1, q.2.keepL hl (fun a z => by have := n a z; omega)⟩)
    · rw [zf_i f (out _ (by omega))]; exact f2.imp id (fun q => ⟨q.1, q.2.keepL hl (fun a z => by have := n a z; omega)⟩)
    · rw [zf_i f (out _ (by omega))]; exact f4.imp id (fun q => ⟨q.1, q.2.keepL hl (fun a z => by have := n a z; omega)⟩)
    · rw [zf_i f (out _ (by omega))]; exact f5.imp id (fun q => ⟨q.1, q.2.keepL hl (fun a z => by have := n a z; omega)⟩)
  · rw [if_neg (by rw [z]; decide)]
    exact ⟨M, rfl, zf_rfl _ _, h0, zz⟩
theorem zc_available (h : zc_Q M P) : ∃ M', ff_D_available 1 M = some (31, M') ∧ zf_F M M' zc_A ∧ zc_Q M' P ∧ zd_V M' P := by
  have h0 := h
  obtain ⟨h1, ⟨h2, h3, h4⟩, ⟨g1, g2, g3, g4, g5⟩, f1, f2, f3, f4, f5⟩ := h
  have e1 : (mm_k M 1).1 = 10 := by rw [h1.1]
  have e18 : (mm_k M 31).1 = 0 := by rw [g4.1]
  unfold ff_D_available
  simp only [zq_gd e1, zg_R e1, h1.2.2.2.2.2.2.2.2.2.2.1, Option.bind_some, zg_I e18, zq_jp]
  rcases f4 with z | ⟨z, zz⟩
  · rw [if_pos z]
    simp only [h1.2.1, Option.bind_some]
    obtain ⟨M1, e, f, d, q, dg⟩ := zc_graph h0
    have n0 : ∀ a, zg_A a → 18 ≤ a ∧ a ≤ 23 := fun a q => q
    obtain ⟨h1, ⟨h2, h3, h4⟩, ⟨g1, g2, g3, g4, g5⟩, f1, f2, f3, f4, f5⟩ := d
    unfold bd_2
    rw [e, Option.bind_some]
    obtain ⟨M', e2, f', d2, q2⟩ := zv_analyse g4 g1 h2 h3 h4 dg
    have hl := zl_F f'
    have n : ∀ a, zv_A a → 31 ≤ a ∧ a ≤ 34 := fun a q => by unfold zv_A at q; omega
    have k1 := h1.keepL hl
    have e1' : (mm_k M' 1).1 = 10 := by rw [k1.1]
    show ∃ M'', (ff_A_analyse 31 45 18 M1).bind _ = _ ∧ _
    rw [e2, Option.bind_some, zg_R e1', Option.bind_some, k1.2.2.2.2.2.2.2.2.2.2.1]
    have out : ∀ a, a < 31 ∨ 34 < a → ¬ zv_A a := fun a ha q => by have := n a q; omega
    refine ⟨M', rfl, zf_tr (zf_mono f (fun a q => by have := n0 a q; unfold zc_A; omega)) (zf_mono f' (fun a q => by have := n a q; unfold zc_A; omega)), ⟨k1, ⟨h2.keepL (by omega) hl, h3.keep (fun a q1 q2 => zl_i hl (by omega) (fun q => by have := n a q; omega)), h4⟩, ⟨g1.keepL hl, g2.keepL hl, g3.keepL hl, g4.keepL hl, g5.keepL hl⟩, ?_, ?_, ?_, Or.inr ⟨q2, d2⟩, ?_⟩, d2⟩
    · rw [zf_i f' (out _ (by omega))]; exact f1.imp id (fun q => ⟨q.1, q.2.keepL hl (fun a z => by have := n a z; omega)⟩)
    · rw [zf_i f' (out _ (by omega))]; exact f2.imp id (fun q => ⟨q.1, q.2.keepL hl (fun a z => by have := n a z; omega)⟩)
    · rw [zf_i f' (out _ (by omega))]; exact f3.imp id (fun q => ⟨q.1, q.2.keepL hl (fun a z => by have := n a z; omega)⟩)
    · rw [zf_i f' (out _ (by omega))]; exact f5.imp id (fun q => ⟨q.1, q.2.keepL hl (fun a z => by have := n a z; omega)⟩)
  · rw [if_neg (by rw [z]; decide)]
    exact ⟨M, rfl, zf_rfl _ _, h0, zz⟩
theorem zc_constants (h : zc_Q M P) : ∃ M', ff_D_constants 1 M = some (35, M') ∧ zf_F M M' zc_A ∧ zc_Q M' P ∧ zd_C M' P := by
  have h0 := h
  obtain ⟨h1, ⟨h2, h3, h4⟩, ⟨g1, g2, g3, g4, g5⟩, f1, f2, f3, f4, f5⟩ := h
  have e1 : (mm_k M 1).1 = 10 := by rw [h1.1]
  have e18 : (mm_k M 35).1 = 1 := by rw [g5.1]
  unfold ff_D_constants
  simp only [zq_gd e1, zg_R e1, h1.2.2.2.2.2.2.2.2.2.2.2.1, Option.bind_some, zg_I e18, zq_jp]
  rcases f5 with z | ⟨z, zz⟩
  · rw [if_pos z]
    simp only [h1.2.1, Option.bind_some]
    obtain ⟨M1, e, f, d, q, dg⟩ := zc_graph h0
    have n0 : ∀ a, zg_A a → 18 ≤ a ∧ a ≤ 23 := fun a q => q
    obtain ⟨h1, ⟨h2, h3, h4⟩, ⟨g1, g2, g3, g4, g5⟩, f1, f2, f3, f4, f5⟩ := d
    unfold bd_2
    rw [e, Option.bind_some]
    obtain ⟨M', e2, f', d2, q2⟩ := zn_analyse g5 g1 h2 h3 h4 dg
    have hl := zl_F f'
    have n : ∀ a, zn_A a → 35 ≤ a ∧ a ≤ 37 := fun a q => by unfold zn_A at q; omega
    have k1 := h1.keepL hl
    have e1' : (mm_k M' 1).1 = 10 := by rw [k1.1]
    show ∃ M'', (ff_C_analyse 35 45 18 M1).bind _ = _ ∧ _
    rw [e2, Option.bind_some, zg_R e1', Option.bind_some, k1.2.2.2.2.2.2.2.2.2.2.2.1]
    have out : ∀ a, a < 35 ∨ 37 < a → ¬ zn_A a := fun a ha q => by have := n a q; omega
    refine ⟨M', rfl, zf_tr (zf_mono f (fun a q => by have := n0 a q; unfold zc_A; omega)) (zf_mono f' (fun a q => by have := n a q; unfold zc_A; omega)), ⟨k1, ⟨h2.keepL (by omega) hl, h3.keep (fun a q1 q2 => zl_i hl (by omega) (fun q => by have := n a q; omega)), h4⟩, ⟨g1.keepL hl, g2.keepL hl, g3.keepL hl, g4.keepL hl, g5.keepL hl⟩, ?_, ?_, ?_, ?_, Or.inr ⟨q2, d2⟩⟩, d2⟩
    · rw [zf_i f' (out _ (by omega))]; exact f1.imp id (fun q => ⟨q.1, q.2.keepL hl (fun a z => by have := n a z; omega)⟩)
    · rw [zf_i f' (out _ (by omega))]; exact f2.imp id (fun q => ⟨q.1, q.2.keepL hl (fun a z => by have := n a z; omega)⟩)
    · rw [zf_i f' (out _ (by omega))]; exact f3.imp id (fun q => ⟨q.1, q.2.keepL hl (fun a z => by have := n a z; omega)⟩)
    · rw [zf_i f' (out _ (by omega))]; exact f4.imp id (fun q => ⟨q.1, q.2.keepL hl (fun a z => by have := n a z; omega)⟩)
  · rw [if_neg (by rw [z]; decide)]
    exact ⟨M, rfl, zf_rfl _ _, h0, zz⟩
end ZCQ
