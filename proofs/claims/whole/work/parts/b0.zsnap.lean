/-! ===== the class: snapshots ===== -/
def zy_savd (s : zy_T) (j : Nat) : zy_T := (zy_P s, zy_u s, (if j = 0 then some (zy_P s) else (zy_n s).1, if j = 1 then some (zy_P s) else (zy_n s).2), zy_t s, zy_c s, zy_v s)
def zy_slot (s : zy_T) (j : Nat) : Option zp_T := if j = 0 then (zy_n s).1 else (zy_n s).2
def zy_As (a : Nat) : Prop := a = 17 ∨ 64 ≤ a
section ZYB0
variable {M : mm_T} {s : zy_T}
theorem zy_slotS {M : mm_T} {s : zy_T} (h : zy_S M 0 (zy_n s).1 ∧ zy_S M 1 (zy_n s).2) {j : Nat} (hj : j < 2) : zy_S M j (zy_slot s j) := by
  unfold zy_slot
  rcases (show j = 0 ∨ j = 1 by omega) with z | z
  · subst z; rw [if_pos rfl]; exact h.1
  · subst z; rw [if_neg (by omega)]; exact h.2
theorem zy_saveRest {N : mm_T} {j : Nat} (hj : j < 2) (hQ : zc_Q N (zy_P s)) (h63 : 63 ≤ mm_n N) (hs : zy_Bs N s) (hD : zy_D N) (hu : mm_R N 17 j ≠ 0) (hU : zy_U N (zy_u s).1 (zy_u s).2) (hS : zy_S N (1 - j) (zy_slot s (1 - j))) : ∃ M', ff_P_copyFrom (mm_R N 17 j) 45 N = some M' ∧ zy_Y N M' zy_As 0 0 ∧ zy_C M' (zy_savd s j) := by
  obtain ⟨hD1, hD2, hD3⟩ := id hD
  have hV := hQ.2.1.2.2
  obtain ⟨d1, d2, d3⟩ := hD2 (6 + j) (by omega) (by rw [zy_r_s]; exact hu)
  rw [zy_r_s] at d1 d2 d3
  obtain ⟨M3, e3, f3, g3⟩ := zo_copy d3 hQ.2.1.1 (by omega) hQ.2.1.2.1 hV
  have yy : zy_Y N M3 zy_As 0 0 := zy_Ywk (zy_YX (zu_F f3)) (Nat.le_refl _) (Nat.le_refl _) (fun a _ q => by unfold zo_A at q; unfold zy_As; omega)
  have off : ∀ y, y < 8 → y ≠ 6 + j → zy_r N y ≠ 0 → ∀ a, zy_r N y ≤ a → a ≤ zy_r N y + 6 → ∀ k, mm_I M3 a k = mm_I N a k := by
    intro y hy hyx hz a q1 q2 k
    have := hD3 y (6 + j) hy (by omega) hyx hz (by rw [zy_r_s]; exact hu)
    rw [zy_r_s] at this
    exact zf_i f3 (by unfold zo_A; omega) k
  have bs := hs.keepY h63 yy (fun a q => by unfold zy_As at q; omega)
  have mine : zy_S M3 j (some (zy_P s)) := ⟨by rw [zf_R f3]; exact hu, by rw [zf_R f3]; exact g3, hV⟩
  have oth : zy_S M3 (1 - j) (zy_slot s (1 - j)) := hS.off (zf_R f3 _ _) (fun z a q1 q2 k => off (6 + (1 - j)) (by omega) (by omega) (by rw [zy_r_s]; exact z) a (by rw [zy_r_s]; exact q1) (by rw [zy_r_s]; exact q2) k)
  refine ⟨M3, e3, yy, ⟨by rw [f3.1]; exact h63, bs.1, hD.keepX h63 (zu_F f3), ?_, ?_, bs.2⟩, ?_⟩
  · obtain ⟨x, hx, h1, hn, h2, h3⟩ := hU
    refine ⟨x, hx, by rw [zf_i f3 (by unfold zo_A; omega)]; exact h1, hn, by rw [zf_i f3 (by unfold zo_A; omega)]; exact h2, fun k hk => ?_⟩
    obtain ⟨b1, b2, b3⟩ := h3 k hk
    have hy : (x + 5 - k) % 6 < 6 := Nat.mod_lt _ (by omega)
    rw [zf_R f3]
    exact ⟨b1, b2.keep (fun a q1 q2 i => off ((x + 5 - k) % 6) (by omega) (by omega) (by rw [zy_r_u hy]; exact b1) a (by rw [zy_r_u hy]; exact q1) (by rw [zy_r_u hy]; exact q2) i), b3⟩
  · rcases (show j = 0 ∨ j = 1 by omega) with z | z
    · subst z
      exact ⟨mine, oth⟩
    · subst z
      exact ⟨oth, mine⟩
  · exact hQ.keepL (A := zo_A (mm_R N 17 j)) (zl_F f3) (fun a q => by unfold zo_A at q; omega)
theorem zy_save (h : zy_C M s) (hB : mm_n M + 8 < st_B) (a : Int32) : zy_O (ff_D_saveSnapshot 1 a M) M (if zi_A 2 a then .inl () else .inr "java/lang/IllegalArgumentException") (if zi_A 2 a then zy_savd s (zi_n a) else s) := by
  have hD := h.1.2.2.1
  have h63 := h.1.1
  have hU := h.1.2.2.2.1
  have hS := h.1.2.2.2.2.1
  have e1 := zc_e1 h.2
  have e17 : mm_R M 1 5 = 17 := h.2.1.2.2.2.2.2.2.1
  unfold ff_D_saveSnapshot
  rw [zq_gd e1, zq_jp, zg_R e1, Option.bind_some, e17, za_N hD.1.2.2.2 (by omega), Option.bind_some]
  by_cases c0 : a < 0
  · rw [if_pos c0, if_neg (fun q => by have := zi_neg.mp c0; have := q.1; omega), if_neg (fun q => by have := zi_neg.mp c0; have := q.1; omega)]
    exact zy_thrown h rfl
  rw [if_neg c0]
  have c00 : 0 ≤ a.toInt := by rw [zi_neg] at c0; omega
  by_cases c1 : a < nI 2
  · have cA : zi_A 2 a := ⟨c00, (zi_ltn (by omega) c0).mp c1⟩
    rw [if_pos c1, if_pos cA, if_pos cA]
    obtain ⟨hj, ea⟩ := zi_An cA
    generalize zi_n a = j at hj ea
    subst ea
    rw [Option.bind_some, za_R hD.1.2.2.2 hj (by omega), Option.bind_some, zq_jp]
    by_cases c : mm_R M 17 j = 0
    · rw [if_pos c]
      obtain ⟨M7, e7, f7, n7, p7⟩ := zo_new (M := M) hB
      rw [e7]
      have hD7 := hD.keepX h63 f7
      have Q7 : zc_Q M7 (zy_P s) := h.2.keepL (zl_X f7 h63) (fun a z => z.elim)
      have r7 : mm_R M7 1 5 = 17 := Q7.1.2.2.2.2.2.2.1
      rw [zg_R (zc_e1 Q7), Option.bind_some, r7, zw_R hD7.1.2.2.2 hj (by omega) (by rw [p7.1]), Option.bind_some]
      have rs : ∀ y, mm_R (mm_sR M7 17 j (mm_n M + 1)) 17 y = if y = j then mm_n M + 1 else mm_R M 17 y := fun y => by
        rw [zm_RR]
        by_cases q : y = j
        · rw [if_pos ⟨rfl, q⟩, if_pos q]
        · rw [if_neg (fun z => q z.2), if_neg q, zu_R f7 (by omega)]
      have ru : ∀ i, mm_R (mm_sR M7 17 j (mm_n M + 1)) 16 i = mm_R M 16 i := fun i => by rw [zm_RR, if_neg (by omega), zu_R f7 (by omega)]
      have er : ∀ y, y < 8 → zy_r (mm_sR M7 17 j (mm_n M + 1)) y = if y = 6 + j then mm_n M + 1 else zy_r M y := by
        intro y hy
        unfold zy_r
        by_cases q6 : y < 6
        · rw [if_pos q6, if_pos q6, ru, if_neg (by omega)]
        · rw [if_neg q6, if_neg q6, rs]
          by_cases q7 : y = 6 + j
          · rw [if_pos (by omega), if_pos q7]
          · rw [if_neg (by omega), if_neg q7]
      have yy : zy_Y M (mm_sR M7 17 j (mm_n M + 1)) zy_As 7 109 := zy_Ytr (l := 0) (w := 0) (zy_Ywk (zy_YX f7) (Nat.le_refl _) (Nat.le_refl _) (fun a _ z => z.elim)) (zy_Ywk (zy_YR _ _ _ _) (Nat.le_refl _) (Nat.le_refl _) (fun a _ z => by unfold zy_As; omega))
      have huj : mm_R (mm_sR M7 17 j (mm_n M + 1)) 17 j = mm_n M + 1 := by rw [rs, if_pos rfl]
      have QN : zc_Q (mm_sR M7 17 j (mm_n M + 1)) (zy_P s) := Q7.setR (Or.inr rfl) _ _
      have DN : zy_D (mm_sR M7 17 j (mm_n M + 1)) := by
        refine ⟨⟨hD7.1.1, by rw [zm_RR, if_neg (by omega)]; exact hD7.1.2.1, hD7.1.2.2.1, hD7.1.2.2.2⟩, fun i hi => ?_, fun i k hi hk hik => ?_⟩
        · rw [er i hi]
          by_cases q : i = 6 + j
          · rw [if_pos q]
            intro _
            refine ⟨by omega, by show mm_n M + 1 + 6 ≤ mm_n M7; omega, p7.setR (by omega) _ _⟩
          · rw [if_neg q]
            intro z
            obtain ⟨b1, b2, b3⟩ := hD.2.1 i hi z
            exact ⟨b1, by show _ ≤ mm_n M7; omega, (b3.keepX b2 f7).setR (by omega) _ _⟩
        · rw [er i hi, er k hk]
          by_cases q : i = 6 + j
          · rw [if_pos q, if_neg (by omega)]
            intro _ z
            have := (hD.2.1 k hk z).2.1
            omega
          · rw [if_neg q]
            by_cases q2 : k = 6 + j
            · rw [if_pos q2]
              intro z _
              have := (hD.2.1 i hi z).2.1
              omega
            · rw [if_neg q2]
              exact hD.2.2 i k hi hk hik
      have UN : zy_U (mm_sR M7 17 j (mm_n M + 1)) (zy_u s).1 (zy_u s).2 := by
        obtain ⟨x, hx, h1, hn, h2, h3⟩ := hU
        refine ⟨x, hx, ?_, hn, ?_, fun k hk => ?_⟩
        · show mm_I M7 15 1 = _
          rw [zu_i f7 (by omega) (fun z => z)]; exact h1
        · show mm_I M7 15 2 = _
          rw [zu_i f7 (by omega) (fun z => z)]; exact h2
        · obtain ⟨b1, b2, b3⟩ := h3 k hk
          have hy : (x + 5 - k) % 6 < 6 := Nat.mod_lt _ (by omega)
          have := (hD.2.1 ((x + 5 - k) % 6) (by omega) (by rw [zy_r_u hy]; exact b1)).2.1
          rw [zy_r_u hy] at this
          rw [ru]
          exact ⟨b1, b2.keep (fun a q1 q2 i => zu_i f7 (by omega) (fun z => z) i), b3⟩
      have SN : zy_S (mm_sR M7 17 j (mm_n M + 1)) (1 - j) (zy_slot s (1 - j)) := by
        refine (zy_slotS hS (show 1 - j < 2 by omega)).off (by rw [rs, if_neg (by omega)]) (fun z a q1 q2 k => ?_)
        have := (hD.2.1 (6 + (1 - j)) (by omega) (by rw [zy_r_s]; exact z)).2.1
        rw [zy_r_s] at this
        exact zu_i f7 (by omega) (fun z => z) k
      obtain ⟨M', e', y', q'⟩ := zy_saveRest (s := s) hj QN (by show 63 ≤ mm_n M7; omega) ((h.1.st).keepY h63 yy (fun a q => by unfold zy_As at q; omega)) DN (by rw [huj]; omega) UN SN
      rw [huj] at e'
      show zy_O ((gf_R (mm_sR M7 17 j (mm_n M + 1)) 1 10 0).bind _) M _ _
      rw [zg_R (zc_e1 QN), Option.bind_some, QN.1.2.1, e', Option.bind_some]
      exact ⟨M', rfl, zy_Ywk (zy_Ytr yy y') (by omega) (by omega) (fun a _ z => by unfold zy_As at z; unfold zy_A; omega), q'⟩
    · rw [if_neg c]
      obtain ⟨M', e', y', q'⟩ := zy_saveRest (s := s) hj h.2 h63 h.1.st hD c hU (zy_slotS hS (by omega))
      show zy_O ((gf_R M 1 10 0).bind _) M _ _
      rw [zg_R e1, Option.bind_some, h.2.1.2.1, e', Option.bind_some]
      exact ⟨M', rfl, zy_Ywk y' (by omega) (by omega) (fun a _ z => by unfold zy_As at z; unfold zy_A; omega), q'⟩
  · rw [if_neg c1, if_neg (fun q => c1 ((zi_ltn (by omega) c0).mpr q.2)), if_neg (fun q => c1 ((zi_ltn (by omega) c0).mpr q.2))]
    exact zy_thrown h rfl
def zy_rst (s : zy_T) (j : Nat) : zy_T := match zy_slot s j with
  | none => s
  | some Q => zy_put s Q
theorem zy_restore (h : zy_C M s) (a : Int32) : zy_O (ff_D_restoreSnapshot 1 a M) M (if zi_A 2 a then (if zy_slot s (zi_n a) = none then .inr "java/lang/IllegalStateException" else .inl ()) else .inr "java/lang/IllegalArgumentException") (if zi_A 2 a then zy_rst s (zi_n a) else s) := by
  have hD := h.1.2.2.1
  have hS := h.1.2.2.2.2.1
  have e1 := zc_e1 h.2
  have e17 : mm_R M 1 5 = 17 := h.2.1.2.2.2.2.2.2.1
  unfold ff_D_restoreSnapshot
  rw [zq_gd e1, zq_jp, zg_R e1, Option.bind_some, e17, za_N hD.1.2.2.2 (by omega), Option.bind_some]
  by_cases c0 : a < 0
  · rw [if_pos c0, if_neg (fun q => by have := zi_neg.mp c0; have := q.1; omega), if_neg (fun q => by have := zi_neg.mp c0; have := q.1; omega)]
    exact zy_thrown h rfl
  rw [if_neg c0]
  have c00 : 0 ≤ a.toInt := by rw [zi_neg] at c0; omega
  by_cases c1 : a < nI 2
  · have cA : zi_A 2 a := ⟨c00, (zi_ltn (by omega) c0).mp c1⟩
    rw [if_pos c1, if_pos cA, if_pos cA]
    obtain ⟨hj, ea⟩ := zi_An cA
    generalize zi_n a = j at hj ea
    subst ea
    rw [Option.bind_some, za_R hD.1.2.2.2 hj (by omega), Option.bind_some]
    have hSj := zy_slotS hS hj
    unfold zy_rst
    cases eo : zy_slot s j with
    | none =>
      rw [eo] at hSj
      have : mm_R M 17 j = 0 := hSj
      rw [if_pos this, if_pos rfl]
      exact zy_thrown h rfl
    | some Q =>
      rw [eo] at hSj
      obtain ⟨b1, b2, b3⟩ := hSj
      obtain ⟨d1, d2, d3⟩ := hD.2.1 (6 + j) (by omega) (by rw [zy_r_s]; exact b1)
      rw [zy_r_s] at d1 d2 d3
      obtain ⟨M', e', y', q'⟩ := zy_replace h d3 (Or.inr d1) b2 b3
      rw [if_neg b1, if_neg (by simp), e', Option.bind_some]
      exact ⟨M', rfl, zy_Ywk y' (by omega) (by omega) (fun a _ z => z), q'⟩
  · rw [if_neg c1, if_neg (fun q => c1 ((zi_ltn (by omega) c0).mpr q.2)), if_neg (fun q => c1 ((zi_ltn (by omega) c0).mpr q.2))]
    exact zy_thrown h rfl
end ZYB0
