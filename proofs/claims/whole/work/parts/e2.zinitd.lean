theorem zi_L4 : (mm_k zi_M4 1 = (10, 0) ∧ mm_R zi_M4 1 1 = 2 ∧ mm_R zi_M4 1 2 = 9 ∧ mm_R zi_M4 1 3 = 13 ∧ mm_R zi_M4 1 4 = 15 ∧ mm_R zi_M4 1 5 = 17 ∧ mm_R zi_M4 1 6 = 18 ∧ mm_R zi_M4 1 7 = 24 ∧ mm_R zi_M4 1 8 = 28 ∧ mm_R zi_M4 1 9 = 31 ∧ mm_R zi_M4 1 10 = 35 ∧ mm_R zi_M4 1 11 = 38) ∧ zo_P zi_M4 2 ∧ zy_p zi_M4 ∧ zy_w zi_M4 ∧ zk_N zi_M4 ∧ (zk_G zi_M4 ∧ zk_R zi_M4 ∧ zk_L zi_M4 ∧ zk_A zi_M4 ∧ zk_C zi_M4) := by
  unfold zo_P zy_p zy_w zk_N zk_G zk_R zk_L zk_A zk_C
  refine ⟨?_, ?_, ?_, ?_, ?_, ?_, ?_, ?_, ?_, ?_⟩ <;> decide +kernel
theorem zi_L5 : (mm_k zi_M4 15 = (3, 0) ∧ mm_R zi_M4 15 0 = 16 ∧ mm_k zi_M4 16 = (23, 6) ∧ mm_k zi_M4 17 = (23, 2)) ∧ (∀ j, j < 8 → zy_r zi_M4 j = 0) ∧ (mm_I zi_M4 15 1 = 0 ∧ mm_I zi_M4 15 2 = 0 ∧ mm_I zi_M4 9 1 = 0 ∧ mm_I zi_M4 9 2 = 0 ∧ mm_I zi_M4 9 3 = -1 ∧ mm_I zi_M4 13 1 = 0) ∧ (mm_I zi_M4 18 0 = 0 ∧ mm_I zi_M4 24 0 = 0 ∧ mm_I zi_M4 28 0 = 0 ∧ mm_I zi_M4 31 0 = 0 ∧ mm_I zi_M4 35 0 = 0) := by
  unfold zy_r
  refine ⟨?_, ?_, ?_, ?_⟩ <;> decide +kernel
/-- the class's first state, however much is made behind it -/
theorem zi_C {M : mm_T} {P : zp_T} (h63 : 63 ≤ mm_n M) (K : ∀ a, 1 ≤ a ∧ a ≤ 51 → mm_k M a = mm_k zi_M4 a) (R : ∀ a j, (1 ≤ a ∧ a ≤ 51) ∧ ¬ (a = 1 ∧ j = 0) → mm_R M a j = mm_R zi_M4 a j) (R0 : mm_R M 1 0 = 45) (I : ∀ a j, 1 ≤ a ∧ a ≤ 40 → mm_I M a j = mm_I zi_M4 a j) (hH : zo_H M 45 P) (hV : zp_V P) : zy_C M (zi_of P) := by
  obtain ⟨⟨d0, d1⟩, p2, p9, pw, pn, pg, pr, pl, pa, pc⟩ := zi_L4
  obtain ⟨d15, dz, ⟨i1, i2, i3, i4, i5, i6⟩, j1, j2, j3, j4, j5⟩ := zi_L5
  have p45 := zi_P4
  have rz : ∀ j, j < 8 → zy_r M j = 0 := fun j hj => by
    have := dz j hj
    unfold zy_r at this ⊢
    by_cases c : j < 6
    · rw [if_pos c] at this ⊢; rw [R 16 j ⟨by omega, by omega⟩, this]
    · rw [if_neg c] at this ⊢; rw [R 17 (j - 6) ⟨by omega, by omega⟩, this]
  have q2 : zo_P M 2 := by
    unfold zo_P at p2 ⊢
    simp (config := {decide := true}) only [K, R]
    all_goals exact p2
  have q45 : zo_P M 45 := by
    unfold zo_P at p45 ⊢
    simp (config := {decide := true}) only [K, R]
    all_goals exact p45
  have q9 : zy_p M := by
    unfold zy_p at p9 ⊢
    simp (config := {decide := true}) only [K, R]
    all_goals exact p9
  have qw : zy_w M := by
    unfold zy_w at pw ⊢
    simp (config := {decide := true}) only [K, R]
    all_goals exact pw
  have qn : zk_N M := by
    unfold zk_N at pn ⊢
    simp (config := {decide := true}) only [K, R]
    all_goals exact pn
  have qg : zk_G M := by
    unfold zk_G at pg ⊢
    simp (config := {decide := true}) only [K, R]
    all_goals exact pg
  have qr : zk_R M := by
    unfold zk_R at pr ⊢
    simp (config := {decide := true}) only [K, R]
    all_goals exact pr
  have ql : zk_L M := by
    unfold zk_L at pl ⊢
    simp (config := {decide := true}) only [K, R]
    all_goals exact pl
  have qa : zk_A M := by
    unfold zk_A at pa ⊢
    simp (config := {decide := true}) only [K, R]
    all_goals exact pa
  have qc : zk_C M := by
    unfold zk_C at pc ⊢
    simp (config := {decide := true}) only [K, R]
    all_goals exact pc
  have qd : zk_D M := by
    unfold zk_D
    simp (config := {decide := true}) only [K, R, R0]
    all_goals exact ⟨d0, trivial, d1⟩
  have r0 : mm_R M 17 0 = 0 := rz 6 (by omega)
  have r1 : mm_R M 17 1 = 0 := rz 7 (by omega)
  refine ⟨⟨h63, ⟨qn, q9, qw, q2⟩, ⟨?_, fun j hj z => absurd (rz j hj) z, fun i j hi hj _ z => absurd (rz i hi) z⟩, ⟨0, by omega, ?_, Nat.zero_le _, ?_, fun k hk => absurd hk (Nat.not_lt_zero _)⟩, ⟨r0, r1⟩, ⟨?_, Nat.zero_le _, fun i hi => absurd hi (Nat.not_lt_zero _)⟩, ⟨?_, ?_⟩, ⟨?_, Nat.zero_le _, fun i hi => absurd hi (Nat.not_lt_zero _)⟩⟩, ⟨qd, ⟨q45, hH, hV⟩, ⟨qg, qr, ql, qa, qc⟩, Or.inl ?_, Or.inl ?_, Or.inl ?_, Or.inl ?_, Or.inl ?_⟩⟩
  · simp (config := {decide := true}) only [K, R]
    all_goals exact d15
  · rw [I 15 1 (by omega), i1]; rfl
  · rw [I 15 2 (by omega), i2]; rfl
  · rw [I 9 1 (by omega), i3]; rfl
  · rw [I 9 2 (by omega), i4]; rfl
  · rw [I 9 3 (by omega), i5]; rfl
  · rw [I 13 1 (by omega), i6]; rfl
  · rw [I 18 0 (by omega), j1]
  · rw [I 24 0 (by omega), j2]
  · rw [I 28 0 (by omega), j3]
  · rw [I 31 0 (by omega), j4]
  · rw [I 35 0 (by omega), j5]
theorem zi_par {M : mm_T} {tx : (Nat → Nat) × Nat} {Q : zp_T} (hp : ky_p M) (hP : zo_P M 45) (hx : ky_x M tx) (e : zT_parse tx = .inl Q) : ∃ v M', ff_S_parse 41 45 M = some (v, M') ∧ zf_F M M' ky_Ap ∧ zo_H M' 45 Q ∧ zp_V Q := by
  obtain ⟨v, M6, e6, g6⟩ := kQ_parse hp hP hx
  rw [e] at g6
  obtain ⟨_, f6, _, _, _, hH, hV⟩ := g6
  exact ⟨v, M6, e6, f6, hH, hV⟩
/-- new DataflowLab -/
theorem zi_initD : ∃ M', ff_D_init 1 zi_M1 = some M' ∧ mm_n M' = 51 ∧ mm_c M' = mm_c zi_M4 ∧ mm_u M' = mm_u zi_M4 ∧ mm_K M' = mm_K zi_M4 ∧ (∀ a j, ¬ (a = 1 ∧ j = 0) → mm_R M' a j = mm_R zi_M4 a j) ∧ mm_R M' 1 0 = 45 ∧ (∀ a j, a ≤ 40 → mm_I M' a j = mm_I zi_M4 a j) ∧ zo_H M' 45 zi_P ∧ zp_V zi_P := by
  obtain ⟨M5, e5, f5, x5⟩ := zi_fill zi_p4
  obtain ⟨v, M6, e6, f6, hH, hV⟩ := zi_par (zi_p4.keep f5) (zi_P4.keep f5) x5 zi_Ps
  have f : zf_F zi_M4 M6 ky_Ap := zf_tr (zf_mono f5 (fun a z => by unfold ky_Ap; omega)) f6
  have k1 : (mm_k M6 1).1 = 10 := by rw [zf_k f, zi_L4.1.1]
  have n6 : mm_n M6 = 51 := f.1.trans zi_n4
  rw [zi_preD, zi_preK]
  show ∃ M', (zi_M3.bind _) = some M' ∧ _
  rw [zi_3s, Option.bind_some]
  show ∃ M', ((ff_S_fillBuffer 41 (st_B + 0) zi_M4).bind fun M5 => (ff_S_parse 41 45 M5).bind fun p => (pf_R p.2 1 10 0 45).bind fun M34 => some M34) = some M' ∧ _
  rw [e5, Option.bind_some, e6, Option.bind_some]
  show ∃ M', ((pf_R M6 1 10 0 45).bind fun M34 => some M34) = some M' ∧ _
  have ep : pf_R M6 1 10 0 45 = some (mm_sR M6 1 0 45) := if_pos ⟨k1, by omega⟩
  rw [ep, Option.bind_some]
  refine ⟨_, rfl, n6, f.2.1, f.2.2.1, f.2.2.2.1, fun a j q => ?_, ?_, fun a j q => ?_, hH, hV⟩
  · rw [zm_RR, if_neg q, zf_R f]
  · rw [zm_RR, if_pos ⟨rfl, rfl⟩]
  · show mm_I M6 a j = _
    exact zf_i f (by unfold ky_Ap; omega) j
