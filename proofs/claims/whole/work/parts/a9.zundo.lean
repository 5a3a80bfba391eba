/-! ===== the class: undo, snapshots ===== -/
/-- cells of the class -/
def zy_A (a : Nat) : Prop := a ≤ 51 ∨ 64 ≤ a
/-- an answer of the class and the state that it leaves -/
def zy_O {V : Type} (X : Option ((V ⊕ String) × mm_T)) (M : mm_T) (r : V ⊕ String) (s : zy_T) : Prop := ∃ M', X = some (r, M') ∧ zy_Y M M' zy_A 100 2000 ∧ zy_C M' s
theorem zy_thrown {V : Type} {M : mm_T} {s : zy_T} (h : zy_C M s) {E : String} {r : V ⊕ String} (hr : r = .inr E) : zy_O (some (.inr E, mm_ex M)) M r s := by
  subst hr
  exact ⟨_, rfl, zy_Ywk (zy_YX (zu_ex M zy_A)) (by omega) (by omega) (fun a _ z => z), h.keepR (zu_ex M (fun _ => False)) (fun a _ z => z.elim)⟩
/-- a question's answer -/
theorem zy_ofO {X : Option ((Int32 ⊕ String) × mm_T)} {M : mm_T} {s : zy_T} {r : Int32 ⊕ String} (h : zy_C M s) (hO : zc_O X M (zy_P s) r) : zy_O X M r s := by
  obtain ⟨M', e, f, q⟩ := hO
  exact ⟨M', e, zy_Ywk (zy_YX f) (by omega) (by omega) (fun a _ z => by unfold zc_A at z; unfold zy_A; omega), h.quest f q⟩
/-- a fresh program over the rest of the state, its analyses not known -/
theorem zy_fresh {M : mm_T} {s' : zy_T} (hB : zy_B M s') (hZ : zc_Z M (zy_P s')) : ∃ M', ff_D_forgetAnalyses 1 M = some M' ∧ zy_Y M M' zy_A 0 0 ∧ zy_C M' s' := by
  obtain ⟨M', e, f, q⟩ := zc_forget hZ
  refine ⟨M', e, zy_Ywk (zy_YX (zu_F f)) (Nat.le_refl _) (Nat.le_refl _) (fun a _ z => by unfold zf_5 at z; unfold zy_A; omega), hB.keepX (zu_F f) (fun a _ z => by unfold zf_5 at z; omega), q⟩
/-- the program is written over from another one -/
theorem zy_over {M : mm_T} {s : zy_T} (h : zy_C M s) {u : Nat} {Q : zp_T} (hu : zo_P M u) (h64 : 64 ≤ u) (hH : zo_H M u Q) (hV : zp_V Q) : ∃ M', ff_P_copyFrom 45 u M = some M' ∧ zf_F M M' (zo_A 45) ∧ zy_B M' s ∧ zc_Z M' Q := by
  obtain ⟨M', e, f, g⟩ := zo_copy h.2.2.1.1 hu (by omega) hH hV
  exact ⟨M', e, f, h.1.keepX (zu_F f) (fun a _ z => by unfold zo_A at z; omega), h.2.z.edit f g hV⟩
theorem zy_e15 {M : mm_T} {s : zy_T} (h : zy_B M s) : (mm_k M 15).1 = 3 := by rw [h.2.2.1.1.1]
def zy_back (s : zy_T) : zy_T := ((zy_u s).1 0, ((fun k => (zy_u s).1 (k + 1)), (zy_u s).2 - 1), zy_n s, zy_t s, zy_c s, zy_v s)
section ZYA9
variable {M : mm_T} {s : zy_T}
theorem zy_takeBack (h : zy_C M s) (hn0 : (zy_u s).2 ≠ 0) : ∃ M', ff_H_takeBack 15 45 M = some (1, M') ∧ zy_Y M M' zy_A 0 0 ∧ zy_B M' (zy_back s) ∧ zc_Z M' (zy_P (zy_back s)) ∧ mm_I M' 15 2 = nI ((zy_u s).2 - 1) := by
  have hD := h.1.2.2.1
  obtain ⟨x, hx, h1, hn, h2, hU⟩ := h.1.2.2.2.1
  have e15 := zy_e15 h.1
  obtain ⟨b1, b2, b3⟩ := hU 0 (by omega)
  have hy : (x + 5 - 0) % 6 < 6 := Nat.mod_lt _ (by omega)
  have hl : (x + 5 - 0) % 6 = if x = 0 then 5 else x - 1 := by split <;> omega
  obtain ⟨c1, c2, c3⟩ := hD.2.1 _ (show (x + 5 - 0) % 6 < 8 by omega) (by rw [zy_r_u hy]; exact b1)
  rw [zy_r_u hy] at c1 c2 c3
  obtain ⟨M1, e1, f1, B1, Z1⟩ := zy_over h c3 c1 b2 b3
  have e15' : (mm_k M1 15).1 = 3 := zy_e15 B1
  have core : ∀ l, l = (if x = 0 then 5 else x - 1) → ∃ M', ((gf_I M 15 3 2).bind fun x3 => if x3 = 0 then (some ((0 : Int32), M)) else ((gf_R M 15 3 0).bind fun x4 => (al_N M x4).bind fun x5 => if nI l < x5 then ((gf_R M 15 3 0).bind fun x6 => (ar_R M x6 (nI l)).bind fun x7 => if x7 = 0 then (some ((0 : Int32), M)) else ((ff_P_copyFrom 45 x7 M).bind fun M1 => (pf_I M1 15 3 1 (nI l)).bind fun M2 => (gf_I M2 15 3 2).bind fun x8 => (pf_I M2 15 3 2 (x8 - (1 : Int32))).bind fun M3 => some ((1 : Int32), M3))) else (some ((0 : Int32), M)))) = some (1, M') ∧ zy_Y M M' zy_A 0 0 ∧ zy_B M' (zy_back s) ∧ zc_Z M' (zy_P (zy_back s)) ∧ mm_I M' 15 2 = nI ((zy_u s).2 - 1) := by
    intro l el
    have el2 : l = (x + 5 - 0) % 6 := by rw [hl, el]
    have l6 : l < 6 := by omega
    rw [zg_I e15, Option.bind_some, h2, if_neg (nI_ne0 (by omega) (by omega)), zg_R e15, Option.bind_some, hD.1.2.1, za_N hD.1.2.2.1 (by omega), Option.bind_some, if_pos (nI_lt l6 (by omega)), Option.bind_some, za_R hD.1.2.2.1 l6 (by omega), Option.bind_some, el2, if_neg b1, e1, Option.bind_some, zp_I e15', Option.bind_some]
    have k2 : ∀ v, (mm_k (mm_sI M1 15 1 v) 15).1 = 3 := fun v => e15'
    have i2 : mm_I (mm_sI M1 15 1 (nI ((x + 5 - 0) % 6))) 15 2 = nI (zy_u s).2 := by rw [zm_II, if_neg (by omega), zf_i f1 (by unfold zo_A; omega), h2]
    rw [zg_I (k2 _), Option.bind_some, i2, show (1 : Int32) = nI 1 from rfl, zi_sub (by omega), zp_I (k2 _), Option.bind_some]
    have f5 : zf_F M1 (mm_sI (mm_sI M1 15 1 (nI ((x + 5 - 0) % 6))) 15 2 (nI ((zy_u s).2 - 1))) (fun a => a = 15) := zf_tr (zf_I1 _ _ _ _) (zf_I1 _ _ _ _)
    have j1 : mm_I (mm_sI (mm_sI M1 15 1 (nI ((x + 5 - 0) % 6))) 15 2 (nI ((zy_u s).2 - 1))) 15 1 = nI ((x + 5 - 0) % 6) := by rw [zm_II, if_neg (by omega), zm_II, if_pos ⟨rfl, rfl⟩]
    have j2 : mm_I (mm_sI (mm_sI M1 15 1 (nI ((x + 5 - 0) % 6))) 15 2 (nI ((zy_u s).2 - 1))) 15 2 = nI ((zy_u s).2 - 1) := by rw [zm_II, if_pos ⟨rfl, rfl⟩]
    generalize mm_sI (mm_sI M1 15 1 (nI ((x + 5 - 0) % 6))) 15 2 (nI ((zy_u s).2 - 1)) = M5 at f5 j1 j2 ⊢
    have ff : zf_F M M5 (fun a => a = 15 ∨ zo_A 45 a) := zf_tr (zf_mono f1 (fun a q => Or.inr q)) (zf_mono f5 (fun a q => Or.inl q))
    have h63 := h.1.1
    have yy : zy_Y M M5 (fun a => a = 15 ∨ zo_A 45 a) 0 0 := zy_YX (zu_F ff)
    have bs := (h.1.st).keepY h63 yy (fun a q => by unfold zo_A at q; omega)
    have hDp : ∀ y, y < 8 → zy_r M y ≠ 0 → 64 ≤ zy_r M y := fun y hy z => (hD.2.1 y hy z).1
    refine ⟨M5, rfl, zy_Ywk yy (Nat.le_refl _) (Nat.le_refl _) (fun a _ q => by unfold zo_A at q; unfold zy_A; omega), ⟨by rw [ff.1]; exact h63, bs.1, hD.keepX h63 (zu_F ff), ⟨(x + 5 - 0) % 6, hy, j1, ?_, j2, fun k hk => ?_⟩, ⟨?_, ?_⟩, bs.2⟩, ?_, j2⟩
    · show (zy_u s).2 - 1 ≤ 6
      omega
    · have hk' : k < (zy_u s).2 - 1 := hk
      have ex : ((x + 5 - 0) % 6 + 5 - k) % 6 = (x + 5 - (k + 1)) % 6 := by omega
      obtain ⟨d1, d2, d3⟩ := hU (k + 1) (by omega)
      have hy2 : (x + 5 - (k + 1)) % 6 < 6 := Nat.mod_lt _ (by omega)
      have := hDp _ (show (x + 5 - (k + 1)) % 6 < 8 by omega) (by rw [zy_r_u hy2]; exact d1)
      rw [zy_r_u hy2] at this
      rw [zf_R ff, ex]
      exact ⟨d1, d2.keep (fun a q1 q2 j => zf_i ff (by unfold zo_A; omega) j), d3⟩
    · exact h.1.2.2.2.2.1.1.off (zf_R ff _ _) (fun z a q1 q2 k => by
        have := hDp (6 + 0) (by omega) (by rw [zy_r_s]; exact z)
        rw [zy_r_s] at this
        exact zf_i ff (by unfold zo_A; omega) k)
    · exact h.1.2.2.2.2.1.2.off (zf_R ff _ _) (fun z a q1 q2 k => by
        have := hDp (6 + 1) (by omega) (by rw [zy_r_s]; exact z)
        rw [zy_r_s] at this
        exact zf_i ff (by unfold zo_A; omega) k)
    · obtain ⟨z1, ⟨z2, z3, z4⟩, g1, g2, g3, g4, g5⟩ := Z1
      have hl := zl_F f5
      exact ⟨z1.keepL hl, ⟨z2.keepL (by omega) hl, z3.keep (fun a q1 q2 j => zf_i f5 (by omega) j), z4⟩, g1.keepL hl, g2.keepL hl, g3.keepL hl, g4.keepL hl, g5.keepL hl⟩
  unfold ff_H_takeBack
  rw [zq_gd e15, zg_I e15, Option.bind_some, h1, zq_jp]
  by_cases c : x = 0
  · rw [if_pos (by rw [c]; decide)]
    exact core 5 (by rw [if_pos c])
  · rw [if_neg (show ¬ nI x ≤ (0 : Int32) from nI_ge (a := 0) (by omega) (by omega)), Option.bind_some, show (1 : Int32) = nI 1 from rfl, zi_sub (by omega)]
    exact core (x - 1) (by rw [if_neg c])
theorem zy_takeNone (h : zy_C M s) (hn0 : (zy_u s).2 = 0) : ff_H_takeBack 15 45 M = some (0, M) := by
  obtain ⟨x, hx, h1, hn, h2, hU⟩ := h.1.2.2.2.1
  have e15 := zy_e15 h.1
  unfold ff_H_takeBack
  rw [zq_gd e15, zg_I e15, Option.bind_some, h1, zq_jp]
  have i2 : mm_I M 15 2 = 0 := by rw [h2, hn0]; rfl
  by_cases c : x = 0
  · rw [if_pos (by rw [c]; decide)]
    show (gf_I M 15 3 2).bind _ = _
    rw [zg_I e15, Option.bind_some, i2, if_pos rfl]
  · rw [if_neg (show ¬ nI x ≤ (0 : Int32) from nI_ge (a := 0) (by omega) (by omega)), Option.bind_some]
    show (gf_I M 15 3 2).bind _ = _
    rw [zg_I e15, Option.bind_some, i2, if_pos rfl]
theorem zy_undo (h : zy_C M s) : zy_O (ff_D_undo 1 M) M (if (zy_u s).2 = 0 then .inr "java/lang/IllegalStateException" else .inl (nI ((zy_u s).2 - 1))) (if (zy_u s).2 = 0 then s else zy_back s) := by
  unfold ff_D_undo
  rw [zq_gd (zc_e1 h.2), zg_R (zc_e1 h.2), Option.bind_some, h.2.1.2.2.2.2.2.1, zg_R (zc_e1 h.2), Option.bind_some, h.2.1.2.1]
  unfold bd_2
  by_cases c : (zy_u s).2 = 0
  · rw [zy_takeNone h c, Option.bind_some, if_pos c, if_pos c]
    exact zy_thrown h rfl
  · obtain ⟨M1, e1, y1, B1, Z1, j1⟩ := zy_takeBack h c
    rw [e1, Option.bind_some, if_neg c, if_neg c]
    show zy_O (if (1 : Int32) = 0 then _ else _) M _ _
    rw [if_neg (by decide)]
    obtain ⟨M2, e2, f2, q2⟩ := zc_forget Z1
    have C2 : zy_C M2 (zy_back s) := ⟨B1.keepX (zu_F f2) (fun a _ z => by unfold zf_5 at z; omega), q2⟩
    show zy_O ((ff_D_forgetAnalyses 1 M1).bind _) M _ _
    rw [e2, Option.bind_some, zg_R (zc_e1 q2), Option.bind_some, q2.1.2.2.2.2.2.1, zg_I (zy_e15 C2.1), Option.bind_some, zf_i f2 (by unfold zf_5; omega), j1]
    exact ⟨M2, rfl, zy_Ywk (zy_Ytr y1 (zy_Ywk (zy_YX (zu_F f2)) (Nat.le_refl _) (Nat.le_refl _) (fun a _ z => by unfold zf_5 at z; unfold zy_A; omega))) (by omega) (by omega) (fun a _ z => z), C2⟩
/-- the history is cleared -/
def zy_put (s : zy_T) (P : zp_T) : zy_T := (P, ((zy_u s).1, 0), zy_n s, zy_t s, zy_c s, zy_v s)
theorem zy_replace (h : zy_C M s) {u : Nat} {Q : zp_T} (hu : zo_P M u) (hd : u + 6 < 45 ∨ 64 ≤ u) (hH : zo_H M u Q) (hV : zp_V Q) : ∃ M', ff_D_replaceProgram 1 u M = some M' ∧ zy_Y M M' zy_A 0 0 ∧ zy_C M' (zy_put s Q) := by
  obtain ⟨M1, e1, f1, g1⟩ := zo_copy h.2.2.1.1 hu (by omega) hH hV
  have B1 : zy_B M1 s := h.1.keepX (zu_F f1) (fun a _ z => by unfold zo_A at z; omega)
  have Z1 := h.2.z.edit f1 g1 hV
  have f2 : zf_F M1 (mm_sI M1 15 2 0) (fun a => a = 15) := zf_I1 _ _ _ _
  have hl := zl_F f2
  obtain ⟨z1, ⟨z2, z3, z4⟩, w1, w2, w3, w4, w5⟩ := Z1
  have Z2 : zc_Z (mm_sI M1 15 2 0) Q := ⟨z1.keepL hl, ⟨z2.keepL (by omega) hl, z3.keep (fun a q1 q2 j => zf_i f2 (by omega) j), z4⟩, w1.keepL hl, w2.keepL hl, w3.keepL hl, w4.keepL hl, w5.keepL hl⟩
  have h63 := B1.1
  have y2 : zy_Y M1 (mm_sI M1 15 2 0) (fun a => a = 15) 0 0 := zy_YX (zu_F f2)
  have bs := (B1.st).keepY h63 y2 (fun a q => by omega)
  have hDp : ∀ y, y < 8 → zy_r M1 y ≠ 0 → 64 ≤ zy_r M1 y := fun y hy z => (B1.2.2.1.2.1 y hy z).1
  have B2 : zy_B (mm_sI M1 15 2 0) (zy_put s Q) := by
    obtain ⟨x, hx, h1, hn, h2, hU⟩ := B1.2.2.2.1
    refine ⟨h63, bs.1, B1.2.2.1.keepX h63 (zu_F f2), ⟨x, hx, ?_, by show 0 ≤ 6; omega, ?_, fun k hk => absurd hk (Nat.not_lt_zero _)⟩, ⟨?_, ?_⟩, bs.2⟩
    · rw [zm_II, if_neg (by omega)]; exact h1
    · rw [zm_II, if_pos ⟨rfl, rfl⟩]; rfl
    · exact B1.2.2.2.2.1.1.off (zf_R f2 _ _) (fun z a q1 q2 k => by
        have := hDp (6 + 0) (by omega) (by rw [zy_r_s]; exact z)
        rw [zy_r_s] at this
        exact zf_i f2 (by omega) k)
    · exact B1.2.2.2.2.1.2.off (zf_R f2 _ _) (fun z a q1 q2 k => by
        have := hDp (6 + 1) (by omega) (by rw [zy_r_s]; exact z)
        rw [zy_r_s] at this
        exact zf_i f2 (by omega) k)
  obtain ⟨M3, e3, f3, q3⟩ := zc_forget Z2
  have e1' : (mm_k M1 1).1 = 10 := by rw [z1.1]
  have eh : ff_H_clear 15 M1 = some (mm_sI M1 15 2 0) := by
    unfold ff_H_clear
    rw [zq_gd (zy_e15 B1), zp_I (zy_e15 B1), Option.bind_some]
  unfold ff_D_replaceProgram
  rw [zq_gd (zc_e1 h.2), zg_R (zc_e1 h.2), Option.bind_some, h.2.1.2.1, e1, Option.bind_some, zg_R e1', Option.bind_some, z1.2.2.2.2.2.1, eh, Option.bind_some, e3, Option.bind_some]
  refine ⟨M3, rfl, ?_, B2.keepX (zu_F f3) (fun a _ z => by unfold zf_5 at z; omega), q3⟩
  exact zy_Ytr (zy_Ytr (zy_Ywk (zy_YX (zu_F f1)) (Nat.le_refl _) (Nat.le_refl _) (fun a _ z => by unfold zo_A at z; unfold zy_A; omega)) (zy_Ywk y2 (Nat.le_refl _) (Nat.le_refl _) (fun a _ z => by unfold zy_A; omega))) (zy_Ywk (zy_YX (zu_F f3)) (Nat.le_refl _) (Nat.le_refl _) (fun a _ z => by unfold zf_5 at z; unfold zy_A; omega))
end ZYA9
