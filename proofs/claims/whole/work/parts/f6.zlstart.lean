/-! ===== the law's start ===== -/
theorem zl_al {M : mm_T} {kd : Nat × Nat} {w a : Nat} (h : a ≤ mm_n M) : mm_k (mm_al M kd w) a = mm_k M a ∧ (∀ j, mm_R (mm_al M kd w) a j = mm_R M a j) ∧ ∀ j, mm_I (mm_al M kd w) a j = mm_I M a j := by
  have x : zf_X M (mm_al M kd w) (fun _ => False) 1 w := zu_al M kd w _
  exact ⟨zu_k x h, fun j => zu_R x h j, fun j => (x.2.2.2.2.2 a h (fun z => z) j).1⟩
theorem zl_kn {M M' : mm_T} (hn : mm_n M = mm_n M') (hK : mm_K M = mm_K M') (a : Nat) : mm_k M a = mm_k M' a := by
  unfold mm_k
  rw [hn, hK]
theorem zl_u4 : mm_c zi_M4 ≤ 1000 ∧ mm_u zi_M4 ≤ 100000 := by decide +kernel
theorem zl_entry (k0 : Nat → Nat → Nat → Int32 → mm_T → Option (Int32 × mm_T)) : ∃ N, lw_e zi_M0 k0 = k0 1 52 63 (0 : Int32) N ∧ zl_I N (zi_of zi_P) ∧ mm_n N = 63 ∧ mm_c N ≤ 1012 ∧ mm_u N ≤ 104600 := by
  obtain ⟨M2, e2, n2, c2, u2, K2, R2, R20, I2, H2, V2⟩ := zi_initD
  have o1 : no_C 10 zi_M0 = some (1, zi_M1) := by
    unfold no_C
    rw [if_pos (by decide)]
    rfl
  have o2 : no_C 11 M2 = some (52, mm_al M2 (11, 0) (kn_N 11)) := by
    unfold no_C
    rw [n2, if_pos (by decide)]
  have n3 : mm_n (mm_al M2 (11, 0) (kn_N 11)) = 52 := by show mm_n M2 + 1 = 52; rw [n2]
  have k3 : mm_k (mm_al M2 (11, 0) (kn_N 11)) 52 = (11, 0) := by have := zu_alk M2 (11, 0) (kn_N 11); rw [n2] at this; exact this
  have i3 : ∀ i, mm_I (mm_al M2 (11, 0) (kn_N 11)) 52 i = 0 := fun i => by have := zu_alI M2 (11, 0) (kn_N 11) i; rw [n2] at this; exact this
  have a3 : ∀ a, a ≤ 51 → mm_k (mm_al M2 (11, 0) (kn_N 11)) a = mm_k M2 a ∧ (∀ j, mm_R (mm_al M2 (11, 0) (kn_N 11)) a j = mm_R M2 a j) ∧ ∀ j, mm_I (mm_al M2 (11, 0) (kn_N 11)) a j = mm_I M2 a j := fun a ha => zl_al (by omega)
  have c3 : mm_c (mm_al M2 (11, 0) (kn_N 11)) = mm_c M2 + 1 := rfl
  have u3 : mm_u (mm_al M2 (11, 0) (kn_N 11)) = mm_u M2 + kn_N 11 := rfl
  have w11 : kn_N 11 = 25 := by decide
  generalize mm_al M2 (11, 0) (kn_N 11) = M3 at o2 n3 k3 i3 a3 c3 u3
  obtain ⟨M4, e4, N, hN, hE, hH⟩ := zi_initM n3 k3 i3
  have n4 : mm_n M4 = 62 := hE.1.1.trans hN.1
  have o3 : na_K 21 M4 (1 : Int32) = some (63, mm_al M4 (21, 1) 1) := by
    have := zu_na (M := M4) (kd := 21) (n := 1) (by omega) (by rw [n4]; decide)
    rw [n4] at this
    exact this
  have n5 : mm_n (mm_al M4 (21, 1) 1) = 63 := by show mm_n M4 + 1 = 63; rw [n4]
  have k5 : mm_k (mm_al M4 (21, 1) 1) 63 = (21, 1) := by have := zu_alk M4 (21, 1) 1; rw [n4] at this; exact this
  have a5 : ∀ a, a ≤ 62 → mm_k (mm_al M4 (21, 1) 1) a = mm_k M4 a ∧ (∀ j, mm_R (mm_al M4 (21, 1) 1) a j = mm_R M4 a j) ∧ ∀ j, mm_I (mm_al M4 (21, 1) 1) a j = mm_I M4 a j := fun a ha => zl_al (by omega)
  have c5 : mm_c (mm_al M4 (21, 1) 1) = mm_c M4 + 1 := rfl
  have u5 : mm_u (mm_al M4 (21, 1) 1) = mm_u M4 + 1 := rfl
  generalize mm_al M4 (21, 1) 1 = M5 at o3 n5 k5 a5 c5 u5
  have low : ∀ a, a ≤ 51 → mm_k M5 a = mm_k M2 a ∧ (∀ j, mm_R M5 a j = mm_R M2 a j) ∧ ∀ j, mm_I M5 a j = mm_I M2 a j := by
    intro a ha
    obtain ⟨p1, p2, p3⟩ := a5 a (by omega)
    obtain ⟨q1, q2, q3⟩ := hN.2.2.2.2.1 a ha
    obtain ⟨r1, r2, r3⟩ := a3 a ha
    refine ⟨?_, fun j => ?_, fun j => ?_⟩
    · rw [p1, zf_k hE.1, q1, r1]
    · rw [p2, zf_R hE.1, q2, r2]
    · rw [p3, zf_i hE.1 (by omega), q3, r3]
  have k24 : ∀ a, mm_k M2 a = mm_k zi_M4 a := fun a => zl_kn (n2.trans zi_n4.symm) K2 a
  refine ⟨M5, ?_, ⟨?_, ?_, k5⟩, n5, ?_, ?_⟩
  · unfold lw_e
    rw [o1, zl_bd, e2, Option.bind_some, o2, zl_bd, e4, Option.bind_some, o3, zl_bd]
  · refine zi_C (by omega) (fun a h => (low a h.2).1.trans (k24 a)) (fun a j h => ((low a h.1.2).2.1 j).trans (R2 a j h.2)) (((low 1 (by omega)).2.1 0).trans R20) (fun a j h => ((low a (by omega)).2.2 j).trans (I2 a j h.2)) (H2.keep (fun a _ h k => (low a (by omega)).2.2 k)) V2
  · exact zi_MM hN hE hH i3 (by omega) (fun a h => (a5 a h.2).1) (fun a j h => (a5 a h.2).2.1 j) (fun a j h => (a5 a h.2).2.2 j) zi_HP V2
  · have := zl_u4.1
    have h1 := hE.1.2.1
    have h2 := hN.2.1
    omega
  · have := zl_u4.2
    have h1 := hE.1.2.2.1
    have h2 := hN.2.2.1
    omega
/-- the law answers 1 on every script of at most 3584 ints -/
theorem zl_law {n : Nat} (xs : Nat → Int32) (hn : n ≤ 3584) : ∃ N, ff_Z_law n xs zi_M0 = some ((1 : Int32), N) ∧ mm_c N ≤ 601024 ∧ mm_u N ≤ 7293034 := by
  obtain ⟨N, e, i, g0, g1, g2⟩ := zl_entry (fun p1 p2 p3 q4 N => lw_f n xs p1 p2 p3 1000 q4 N)
  obtain ⟨N', e', g3, g4⟩ := zl_loop (xs := xs) hn 1000 0 N _ i (by omega) (by omega) (by rw [g0]; decide)
  refine ⟨N', ?_, by omega, by omega⟩
  unfold ff_Z_law
  rw [e]
  exact e'
