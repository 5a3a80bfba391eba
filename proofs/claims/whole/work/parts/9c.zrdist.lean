/-! ===== the reference: distances ===== -/
/-- a row of booleans says Φ -/
def zt_rw (N : mm_T) (c : Nat) (Φ : Nat → Prop) : Prop := ∀ y, y < 12 → (mm_I N c y = 0 ∧ ¬ Φ y) ∨ (mm_I N c y = 1 ∧ Φ y)
theorem zt_rw_b {N : mm_T} {c : Nat} {Φ : Nat → Prop} (h : zt_rw N c Φ) {y : Nat} (hy : y < 12) : mm_I N c y = zb_B (zp_b (Φ y)) := by
  rcases h y hy with ⟨e, n⟩ | ⟨e, n⟩
  · rw [e, zp_bF n]; rfl
  · rw [e, zp_b_iff.mpr n]; rfl
theorem zt_rw_of {N : mm_T} {c : Nat} {Φ : Nat → Prop} (h : ∀ y, y < 12 → mm_I N c y = zb_B (zp_b (Φ y))) : zt_rw N c Φ := by
  intro y hy
  rw [h y hy]
  cases e : zp_b (Φ y) with
  | false => exact Or.inl ⟨rfl, fun q => by rw [zp_b_iff.mpr q] at e; cases e⟩
  | true => exact Or.inr ⟨rfl, zp_b_iff.mp e⟩
theorem zt_rw_iff {N : mm_T} {c : Nat} {Φ Ψ : Nat → Prop} (h : zt_rw N c Φ) (e : ∀ y, y < 12 → (Φ y ↔ Ψ y)) : zt_rw N c Ψ := fun y hy => (h y hy).imp (fun q => ⟨q.1, fun z => q.2 ((e y hy).mpr z)⟩) (fun q => ⟨q.1, (e y hy).mp q.2⟩)
theorem zt_rw_set {N : mm_T} {c : Nat} {Φ : Nat → Prop} (h : zt_rw N c Φ) (k : Nat) : zt_rw (mm_sI N c k 1) c (fun y => Φ y ∨ y = k) := by
  intro y hy
  rw [zm_II]
  by_cases q : y = k
  · rw [if_pos ⟨rfl, q⟩]
    exact Or.inr ⟨rfl, Or.inr q⟩
  · rw [if_neg (fun z => q z.2)]
    exact (h y hy).imp (fun z => ⟨z.1, fun w => w.elim z.2 q⟩) (fun z => ⟨z.1, Or.inl z.2⟩)
section ZTC
variable {M : mm_T} {o : Nat} {P : zp_T}
/-- one more step: the next row from the row of now -/
theorem zt_dstep {N : mm_T} {k0 : mm_T → Option (Int32 × mm_T)} {Q : Int32 × mm_T → Prop} {b q3 : Int32} {c0 c1 n : Nat} (h : zt_S N o P) (hc0 : 62 < c0) (hc1 : 62 < c1) (hne : c0 ≠ c1) (k0k : mm_k N c0 = (22, 12)) (k1k : mm_k N c1 = (22, 12)) (h0 : zt_rw N c0 (fun y => zp_nr P n y = true)) (h1 : zt_rw N c1 (fun _ => False)) (hk : ∀ N', zf_F N N' (fun x => x = c1) → zt_rw N' c1 (fun y => zp_nr P (n + 1) y = true) → zh_H (k0 N') Q) : zh_H (lf_M_distanceTo_44 k0 52 b c0 q3 c1 fu_L 0 N) Q := by
  have hV := h.2.2.2.2
  have hnb := hV.2.1
  refine zh_up (F := fun fu i N' => lf_M_distanceTo_44 k0 52 b c0 q3 c1 fu i N') (zp_nb P) (fun i N' => zf_F N N' (fun x => x = c1) ∧ zt_rw N' c1 (fun y => (y < i ∧ zp_nr P n y = true) ∨ ∃ a, a < i ∧ zp_nr P n a = true ∧ zp_ed P a y = true)) ?_ ?_ fu_L 0 N (Nat.zero_le _) (by rw [zs_fuel]; omega) ⟨zf_rfl _ _, zt_rw_iff h1 (fun y _ => ⟨fun q => q.elim, fun q => by
    rcases q with q | ⟨a, q, _⟩
    · omega
    · omega⟩)⟩
  · intro fu i N' hi ⟨g1, g2⟩ k
    have hS : zt_S N' o P := h.keep g1 (zf_i g1 (by omega) 2) (fun k => zf_i g1 (by omega) k)
    have r0 : mm_I N' c0 i = zb_B (zp_b (zp_nr P n i = true)) := by rw [zf_i g1 hne]; exact zt_rw_b h0 (by omega)
    have e0 : ar_Z N' c0 (nI i) = some (zb_B (zp_b (zp_nr P n i = true))) := by rw [za_Z (by rw [zf_k g1]; exact k0k) (show i < 12 by omega) (by omega), r0]
    have e1 : ar_Z N' c1 (nI i) = some (mm_I N' c1 i) := za_Z (by rw [zf_k g1]; exact k1k) (show i < 12 by omega) (by omega)
    show zh_H (lb_M_distanceTo_44 k0 52 b c0 q3 c1 (lf_M_distanceTo_44 k0 52 b c0 q3 c1 fu) (nI i) N') _
    unfold lb_M_distanceTo_44
    rw [zt_nb hS, Option.bind_some, if_neg (nI_ge hi (by omega)), e1, Option.bind_some, e0, Option.bind_some]
    have ov : ∃ d : Bool, mm_I N' c1 i ||| zb_B (zp_b (zp_nr P n i = true)) = zb_B d ∧ (d = true ↔ ((i < i ∧ zp_nr P n i = true) ∨ ∃ a, a < i ∧ zp_nr P n a = true ∧ zp_ed P a i = true) ∨ zp_nr P n i = true) := by
      rw [zt_rw_b g2 (show i < 12 by omega)]
      refine ⟨zp_b ((i < i ∧ zp_nr P n i = true) ∨ ∃ a, a < i ∧ zp_nr P n a = true ∧ zp_ed P a i = true) || zp_b (zp_nr P n i = true), ?_, ?_⟩
      · cases zp_b ((i < i ∧ zp_nr P n i = true) ∨ ∃ a, a < i ∧ zp_nr P n a = true ∧ zp_ed P a i = true) <;> cases zp_b (zp_nr P n i = true) <;> rfl
      · rw [Bool.or_eq_true, zp_b_iff, zp_b_iff]
    obtain ⟨d, ed, hd⟩ := ov
    rw [ed, zw_Z (by rw [zf_k g1]; exact k1k) (show i < 12 by omega) (by omega), Option.bind_some]
    simp only [Option.bind_some, nI_1]
    have f1 : zf_F N (mm_sI N' c1 i (zb_B d)) (fun x => x = c1) := zf_tr g1 (zf_I (A := fun x => x = c1) rfl _ _)
    have w1 : zt_rw (mm_sI N' c1 i (zb_B d)) c1 (fun y => ((y < i + 1 ∧ zp_nr P n y = true) ∨ ∃ a, a < i ∧ zp_nr P n a = true ∧ zp_ed P a y = true)) := by
      intro y hy
      rw [zm_II]
      by_cases q : y = i
      · subst q
        rw [if_pos ⟨rfl, rfl⟩]
        cases d with
        | false => exact Or.inl ⟨rfl, fun z => by
            have := hd.mpr (by rcases z with z | z
                               · exact Or.inr z.2
                               · exact Or.inl (Or.inr z))
            cases this⟩
        | true => exact Or.inr ⟨rfl, by
            rcases hd.mp rfl with z | z
            · rcases z with z | z
              · omega
              · exact Or.inr z
            · exact Or.inl ⟨by omega, z⟩⟩
      · rw [if_neg (fun z => q z.2)]
        have same : ((y < i + 1 ∧ zp_nr P n y = true) ∨ ∃ a, a < i ∧ zp_nr P n a = true ∧ zp_ed P a y = true) ↔ ((y < i ∧ zp_nr P n y = true) ∨ ∃ a, a < i ∧ zp_nr P n a = true ∧ zp_ed P a y = true) := by
          constructor
          · rintro (w | w)
            · exact Or.inl ⟨by omega, w.2⟩
            · exact Or.inr w
          · rintro (w | w)
            · exact Or.inl ⟨by omega, w.2⟩
            · exact Or.inr w
        rcases g2 y hy with z | z
        · exact Or.inl ⟨z.1, fun w => z.2 (same.mp w)⟩
        · exact Or.inr ⟨z.1, same.mpr z.2⟩
    by_cases cn : zp_nr P n i = true
    · -- now is in the row: its ways are marked
      refine zh_up (F := fun fu j N2 => lf_M_distanceTo_69 _ 52 b c0 q3 c1 (nI i) fu j N2) (zp_w P i) (fun j N2 => zf_F N N2 (fun x => x = c1) ∧ zt_rw N2 c1 (fun y => ((y < i + 1 ∧ zp_nr P n y = true) ∨ ∃ a, a < i ∧ zp_nr P n a = true ∧ zp_ed P a y = true) ∨ ∃ m, m < j ∧ y = zp_way P i m)) ?_ ?_ fu_L 0 _ (Nat.zero_le _) (by have := zp_w_le hV hi; rw [zs_fuel]; omega) ⟨f1, zt_rw_iff w1 (fun y _ => ⟨Or.inl, fun q => q.elim id (fun ⟨m, z, _⟩ => by omega)⟩)⟩
      · intro fu' j N2 hj ⟨p1, p2⟩ k'
        have hS2 : zt_S N2 o P := h.keep p1 (zf_i p1 (by omega) 2) (fun k => zf_i p1 (by omega) k)
        have hwl := zp_way_lt hV hi hj
        have hw2 := zp_w_le hV hi
        have e0' : ar_Z N2 c0 (nI i) = some 1 := by rw [za_Z (by rw [zf_k p1]; exact k0k) (show i < 12 by omega) (by omega), zf_i p1 hne, ← zf_i g1 hne, r0, zp_b_iff.mpr cn]; rfl
        have z1 : aw_Z N2 c1 (nI (zp_way P i j)) 1 = some (mm_sI N2 c1 (zp_way P i j) 1) := zw_Z (by rw [zf_k p1]; exact k1k) (show zp_way P i j < 12 by omega) (by omega) true
        show zh_H (lb_M_distanceTo_69 _ 52 b c0 q3 c1 (nI i) (lf_M_distanceTo_69 _ 52 b c0 q3 c1 (nI i) fu') (nI j) N2) _
        unfold lb_M_distanceTo_69
        rw [zt_ways hS2 hi, Option.bind_some, if_neg (nI_ge hj (by omega)), e0', Option.bind_some, if_neg (by decide), zt_way hS2 hi hj, Option.bind_some, z1, Option.bind_some, Option.bind_some, nI_1]
        refine k' _ ⟨zf_tr p1 (zf_I (A := fun x => x = c1) rfl _ _), zt_rw_iff (zt_rw_set p2 _) (fun y _ => ?_)⟩
        constructor
        · rintro ((z | ⟨m, z, z2⟩) | z)
          · exact Or.inl z
          · exact Or.inr ⟨m, by omega, z2⟩
          · exact Or.inr ⟨j, by omega, z⟩
        · rintro (z | ⟨m, z, z2⟩)
          · exact Or.inl (Or.inl z)
          · by_cases mj : m = j
            · subst mj; exact Or.inr z2
            · exact Or.inl (Or.inr ⟨m, by omega, z2⟩)
      · intro fu' N2 ⟨p1, p2⟩
        have hS2 : zt_S N2 o P := h.keep p1 (zf_i p1 (by omega) 2) (fun k => zf_i p1 (by omega) k)
        have hw2 := zp_w_le hV hi
        show zh_H (lb_M_distanceTo_69 _ 52 b c0 q3 c1 (nI i) (lf_M_distanceTo_69 _ 52 b c0 q3 c1 (nI i) fu') (nI (zp_w P i)) N2) _
        unfold lb_M_distanceTo_69
        rw [zt_ways hS2 hi, Option.bind_some, if_pos (nI_le (Nat.le_refl _) (by omega))]
        refine k N2 ⟨p1, zt_rw_iff p2 (fun y _ => ?_)⟩
        constructor
        · rintro ((z | ⟨a, z, z2⟩) | ⟨m, z, z2⟩)
          · exact Or.inl z
          · exact Or.inr ⟨a, by omega, z2⟩
          · exact Or.inr ⟨i, by omega, cn, (zp_ed_way hV).mpr ⟨hi, m, z, z2⟩⟩
        · rintro (z | ⟨a, z, z2, z3⟩)
          · exact Or.inl (Or.inl z)
          · by_cases ai : a = i
            · subst ai
              obtain ⟨_, m, z4, z5⟩ := (zp_ed_way hV).mp z3
              exact Or.inr ⟨m, z4, z5⟩
            · exact Or.inl (Or.inr ⟨a, by omega, z2, z3⟩)
    · -- not in the row: nothing is marked
      have fin : ∀ fu', zh_H (lf_M_distanceTo_69 (fun (M7 : mm_T) => lf_M_distanceTo_44 k0 52 b c0 q3 c1 fu (nI (i + 1)) M7) 52 b c0 q3 c1 (nI i) (fu' + 1) 0 (mm_sI N' c1 i (zb_B d))) Q := by
        intro fu'
        have hS2 : zt_S (mm_sI N' c1 i (zb_B d)) o P := h.keep f1 (zf_i f1 (by omega) 2) (fun k => zf_i f1 (by omega) k)
        have hw2 := zp_w_le hV hi
        have e0' : ar_Z (mm_sI N' c1 i (zb_B d)) c0 (nI i) = some 0 := by rw [za_Z (by rw [zf_k f1]; exact k0k) (show i < 12 by omega) (by omega), zf_i f1 hne, ← zf_i g1 hne, r0, zp_bF cn]; rfl
        have done : zh_H (lf_M_distanceTo_44 k0 52 b c0 q3 c1 fu (nI (i + 1)) (mm_sI N' c1 i (zb_B d))) Q := by
          refine k _ ⟨f1, zt_rw_iff w1 (fun y _ => ?_)⟩
          constructor
          · rintro (z | ⟨a, z, z2⟩)
            · exact Or.inl z
            · exact Or.inr ⟨a, by omega, z2⟩
          · rintro (z | ⟨a, z, z2, z3⟩)
            · exact Or.inl z
            · by_cases ai : a = i
              · subst ai; exact absurd z2 cn
              · exact Or.inr ⟨a, by omega, z2, z3⟩
        show zh_H (lb_M_distanceTo_69 _ 52 b c0 q3 c1 (nI i) (lf_M_distanceTo_69 _ 52 b c0 q3 c1 (nI i) fu') 0 (mm_sI N' c1 i (zb_B d))) _
        unfold lb_M_distanceTo_69
        rw [zt_ways hS2 hi, Option.bind_some]
        by_cases w0 : nI (zp_w P i) ≤ 0
        · rw [if_pos w0]; exact done
        · rw [if_neg w0, e0', Option.bind_some, if_pos rfl]; exact done
      obtain ⟨g, hg⟩ : ∃ g, fu_L = g + 1 := ⟨999999, rfl⟩
      rw [hg]
      exact fin g
  · intro fu N' ⟨g1, g2⟩
    have hS : zt_S N' o P := h.keep g1 (zf_i g1 (by omega) 2) (fun k => zf_i g1 (by omega) k)
    show zh_H (lb_M_distanceTo_44 k0 52 b c0 q3 c1 (lf_M_distanceTo_44 k0 52 b c0 q3 c1 fu) (nI (zp_nb P)) N') _
    unfold lb_M_distanceTo_44
    rw [zt_nb hS, Option.bind_some, if_pos (nI_le (Nat.le_refl _) (by omega))]
    refine hk N' g1 (zt_rw_iff g2 (fun y _ => ?_))
    rw [zp_nr_succ]
    constructor
    · rintro (z | ⟨a, z, z2, z3⟩)
      · exact Or.inl z.2
      · exact Or.inr ⟨a, by omega, z2, z3⟩
    · rintro (z | ⟨a, z, z2, z3⟩)
      · exact Or.inl ⟨zp_nr_lt hV z, z⟩
      · exact Or.inr ⟨a, (zp_ed_lt hV z3).1, z2, z3⟩
end ZTC
