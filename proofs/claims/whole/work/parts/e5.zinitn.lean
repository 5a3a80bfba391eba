theorem zi_eqP : (zp_nb zi_P = 4 ∧ zp_ni zi_P = 8 ∧ zp_nb zi_q16 = 4 ∧ zp_ni zi_q16 = 8) ∧ (∀ b, b < 5 → zp_st zi_P b = zp_st zi_q16 b) ∧ (∀ b, b < 4 → zi_P.2.2.2.1 b = zi_q16.2.2.2.1 b) ∧ ∀ i, i < 8 → zi_P.2.2.2.2 i = zi_q16.2.2.2.2 i := by
  refine ⟨?_, ?_, ?_, ?_⟩ <;> decide +kernel
theorem zi_tH {M : mm_T} {P Q : zp_T} (e1 : zp_nb P = zp_nb Q) (e2 : zp_ni P = zp_ni Q) (e3 : ∀ b, b < zp_nb Q + 1 → zp_st P b = zp_st Q b) (e4 : ∀ b, b < zp_nb Q → P.2.2.2.1 b = Q.2.2.2.1 b) (e5 : ∀ i, i < zp_ni Q → P.2.2.2.2 i = Q.2.2.2.2 i) (h : zt_H M 0 Q) : zt_H M 0 P := by
  obtain ⟨h1, h2, h3, h4⟩ := h
  refine ⟨by rw [e1]; exact h1, by rw [e2]; exact h2, fun b hb => ?_, fun i hi => ?_⟩
  · rw [e1] at hb
    have := h3 b hb
    unfold zp_w zp_x zp_f zp_s at this ⊢
    rw [e3 b (by omega), e3 (b + 1) (by omega), e4 b hb]
    exact this
  · rw [e2] at hi
    have := h4 i hi
    unfold zp_k zp_t zp_l zp_o zp_r at this ⊢
    rw [e5 i hi]
    exact this
/-- the reference's first state, however much is made behind it -/
theorem zi_MM {M0 N M' M : mm_T} (hN : zi_W M0 N) (hE : zt_E 0 N M') (hH : kR_H M' zi_q16 4) (h52 : ∀ i, mm_I M0 52 i = 0) (h63 : 63 ≤ mm_n M) (K : ∀ a, 52 ≤ a ∧ a ≤ 62 → mm_k M a = mm_k M' a) (R : ∀ a j, 52 ≤ a ∧ a ≤ 62 → mm_R M a j = mm_R M' a j) (I : ∀ a j, 52 ≤ a ∧ a ≤ 62 → mm_I M a j = mm_I M' a j) {P : zp_T} (hP : zt_H M' 0 zi_q16 → zt_H M' 0 P) (hV : zp_V P) : zy_M M (zi_of P) := by
  obtain ⟨_, _, _, hR, _, w52, _, w54⟩ := hN
  have R' := hR.keep hE.1
  have RM : zt_R M := by
    unfold zt_R at R' ⊢
    simp (config := {decide := true}) only [K, R]
    all_goals exact R'
  have i52 : ∀ i, mm_I M 52 i = if i = 17 then -1 else 0 := fun i => by rw [I 52 i (by omega), zf_i hE.1 (by omega), w52, h52]
  have i54 : ∀ i, mm_I M 54 i = 0 := fun i => by rw [I 54 i (by omega), zf_i hE.1 (by omega), w54]
  have H : zt_H M 0 P := (hP (kR_H.fin hH)).keep (fun k => I 53 k (by omega))
  refine ⟨h63, ⟨RM, ?_, Nat.zero_le _, H, hV⟩, ⟨Nat.zero_le _, ?_, fun k hk => absurd hk (Nat.not_lt_zero _)⟩, ⟨i54 0, i54 1, fun Q (e : (none : Option zp_T) = some Q) => (by cases e), fun Q (e : (none : Option zp_T) = some Q) => (by cases e)⟩, ⟨?_, Nat.zero_le _, fun i hi => absurd hi (Nat.not_lt_zero _)⟩, ⟨?_, ?_⟩, ⟨?_, Nat.zero_le _, fun i hi => absurd hi (Nat.not_lt_zero _)⟩⟩
  · rw [i52, if_neg (by omega)]; rfl
  · rw [i52, if_neg (by omega)]; rfl
  · rw [i52, if_neg (by omega)]; rfl
  · rw [i52, if_neg (by omega)]; rfl
  · rw [i52, if_pos rfl]; rfl
  · rw [i52, if_neg (by omega)]; rfl
theorem zi_HP {M : mm_T} (h : zt_H M 0 zi_q16) : zt_H M 0 zi_P := by
  obtain ⟨⟨n1, n2, n3, n4⟩, e3, e4, e5⟩ := zi_eqP
  exact zi_tH (n1.trans n3.symm) (n2.trans n4.symm) (fun b hb => e3 b (by omega)) (fun b hb => e4 b (by omega)) (fun i hi => e5 i (by omega)) h
