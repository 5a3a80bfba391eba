/-! ===== the class is made ===== -/
def zi_M0 : mm_T := (0, 0, 0, (fun _ => (99, 0)), (fun _ _ => 0), (fun _ _ => 0), fun _ _ => 0)
def zi_M1 : mm_T := mm_al zi_M0 (10, 0) (kn_N 10)
/-- all objects are made -/
def zi_pre {ρ : Type} (K : Nat → Nat → mm_T → Option ρ) (M : mm_T) : Option ρ :=
  gd_G M 1 10 (
  bd_2 (no_C 7 M) fun x1 M1 =>
  (ff_P_init x1 M1).bind fun M2 =>
  (pf_R M2 1 10 1 x1).bind fun M3 =>
  bd_2 (no_C 6 M3) fun x2 M4 =>
  (ff_S_init x2 M4).bind fun M5 =>
  (pf_R M5 1 10 2 x2).bind fun M6 =>
  bd_2 (no_C 9 M6) fun x3 M7 =>
  (ff_W_init x3 M7).bind fun M8 =>
  (pf_R M8 1 10 3 x3).bind fun M9 =>
  bd_2 (no_C 3 M9) fun x4 M10 =>
  (ff_H_init x4 M10).bind fun M11 =>
  (pf_R M11 1 10 4 x4).bind fun M12 =>
  bd_2 (na_K 23 M12 (2 : Int32)) fun x5 M13 =>
  (pf_R M13 1 10 5 x5).bind fun M14 =>
  bd_2 (no_C 2 M14) fun x6 M15 =>
  (ff_G_init x6 M15).bind fun M16 =>
  (pf_R M16 1 10 6 x6).bind fun M17 =>
  bd_2 (no_C 8 M17) fun x7 M18 =>
  (ff_R_init x7 M18).bind fun M19 =>
  (pf_R M19 1 10 7 x7).bind fun M20 =>
  bd_2 (no_C 4 M20) fun x8 M21 =>
  (ff_L_init x8 M21).bind fun M22 =>
  (pf_R M22 1 10 8 x8).bind fun M23 =>
  bd_2 (no_C 0 M23) fun x9 M24 =>
  (ff_A_init x9 M24).bind fun M25 =>
  (pf_R M25 1 10 9 x9).bind fun M26 =>
  bd_2 (no_C 1 M26) fun x10 M27 =>
  (ff_C_init x10 M27).bind fun M28 =>
  (pf_R M28 1 10 10 x10).bind fun M29 =>
  bd_2 (no_C 5 M29) fun x11 M30 =>
  (ff_N_init x11 M30).bind fun M31 =>
  (pf_R M31 1 10 11 x11).bind fun M32 =>
  bd_2 (no_C 6 M32) fun x13 M35 =>
  (ff_S_init x13 M35).bind fun M36 =>
  bd_2 (no_C 7 M36) fun x14 M37 =>
  (ff_P_init x14 M37).bind fun M38 =>
  K x13 x14 M38)
theorem zi_preK {ρ : Type} (K : Nat → Nat → mm_T → Option ρ) (M : mm_T) : zi_pre K M = (zi_pre (fun a b N => some (a, b, N)) M).bind fun p => K p.1 p.2.1 p.2.2 := by
  unfold zi_pre gd_G
  by_cases c : (mm_k M 1).1 = 10
  · rw [if_pos c, if_pos c]
    simp only [bd_2, Option.bind_assoc, Option.bind_some]
  · rw [if_neg c, if_neg c]; rfl
theorem zi_preD (M : mm_T) : ff_D_init 1 M = zi_pre (fun a b N => (ff_S_fillBuffer a (st_B + 0) N).bind fun M5 => (ff_S_parse a b M5).bind fun p => (pf_R p.2 1 10 0 b).bind fun M34 => some M34) M := by
  unfold ff_D_init ff_D_firstProgram zi_pre gd_G
  by_cases c : (mm_k M 1).1 = 10
  · rw [if_pos c, if_pos c]
    simp only [bd_2, Option.bind_assoc, Option.bind_some]
  · rw [if_neg c, if_neg c]
def zi_M3 : Option (Nat × Nat × mm_T) := zi_pre (fun a b N => some (a, b, N)) zi_M1
def zi_M4 : mm_T := (zi_M3.getD (0, 0, zi_M0)).2.2
theorem zi_3s : zi_M3 = some (41, 45, zi_M4) := by
  have h : zi_M3.isSome = true ∧ (zi_M3.getD (0, 0, zi_M0)).1 = 41 ∧ (zi_M3.getD (0, 0, zi_M0)).2.1 = 45 := by decide +kernel
  obtain ⟨h1, h2, h3⟩ := h
  obtain ⟨x, hx⟩ := Option.isSome_iff_exists.mp h1
  unfold zi_M4
  rw [hx] at h2 h3 ⊢
  simp only [Option.getD_some] at h2 h3 ⊢
  rw [← h2, ← h3]
theorem zi_n4 : mm_n zi_M4 = 51 := by decide +kernel
theorem zi_p4 : ky_p zi_M4 := by unfold ky_p; decide +kernel
theorem zi_P4 : zo_P zi_M4 45 := by unfold zo_P; decide +kernel
