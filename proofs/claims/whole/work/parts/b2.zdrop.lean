/-! ===== dead instructions are removed; the class ===== -/
def zp_rd (D : Nat → Bool) : Nat → zp_T → zp_T
  | 0, P => P
  | n + 1, P => zp_rd D n (if D n = true then zp_rm P n else P)
noncomputable def zp_d1 (P : zp_T) : zp_T := zp_rd (fun i => zp_b (zp_DD P i)) (zp_ni P) P
noncomputable def zp_dr : Nat → zp_T → zp_T
  | 0, P => P
  | f + 1, P => if zp_ni (zp_d1 P) < zp_ni P then zp_dr f (zp_d1 P) else zp_d1 P
noncomputable def zp_fx (P : zp_T) : zp_T := zp_dr (zp_ni P + 1) P
theorem zp_rd_ni (D : Nat → Bool) : ∀ n P, n ≤ zp_ni P → zp_ni (zp_rd D n P) ≤ zp_ni P := by
  intro n
  induction n with
  | zero => intro P _; exact Nat.le_refl _
  | succ n ih =>
    intro P hn
    show zp_ni (zp_rd D n (if D n = true then zp_rm P n else P)) ≤ _
    by_cases c : D n = true
    · rw [if_pos c]
      have e : zp_ni (zp_rm P n) = zp_ni P - 1 := rfl
      have := ih (zp_rm P n) (by omega)
      omega
    · rw [if_neg c]
      exact ih P (by omega)
theorem zp_rd_V {D : Nat → Bool} : ∀ n P, zp_V P → n ≤ zp_ni P → zp_V (zp_rd D n P) := by
  intro n
  induction n with
  | zero => intro P h _; exact h
  | succ n ih =>
    intro P h hn
    show zp_V (zp_rd D n (if D n = true then zp_rm P n else P))
    by_cases c : D n = true
    · rw [if_pos c]
      have e : zp_ni (zp_rm P n) = zp_ni P - 1 := rfl
      exact ih _ (zp_rm_V h (by omega)) (by omega)
    · rw [if_neg c]
      exact ih P h (by omega)
theorem zp_d1_V {P : zp_T} (hV : zp_V P) : zp_V (zp_d1 P) := zp_rd_V _ _ hV (Nat.le_refl _)
theorem zp_d1_ni (P : zp_T) : zp_ni (zp_d1 P) ≤ zp_ni P := zp_rd_ni _ _ _ (Nat.le_refl _)
theorem zp_dr_fuel : ∀ f g P, zp_ni P < f → zp_ni P < g → zp_dr f P = zp_dr g P := by
  intro f
  induction f with
  | zero => intro g P h _; exact absurd h (Nat.not_lt_zero _)
  | succ f ih =>
    intro g P h1 h2
    obtain ⟨g, rfl⟩ : ∃ g', g = g' + 1 := ⟨g - 1, by omega⟩
    show (if zp_ni (zp_d1 P) < zp_ni P then zp_dr f (zp_d1 P) else zp_d1 P) = (if zp_ni (zp_d1 P) < zp_ni P then zp_dr g (zp_d1 P) else zp_d1 P)
    by_cases c : zp_ni (zp_d1 P) < zp_ni P
    · rw [if_pos c, if_pos c]
      exact ih g (zp_d1 P) (by omega) (by omega)
    · rw [if_neg c, if_neg c]
theorem zp_fx_step (P : zp_T) : zp_fx P = if zp_ni (zp_d1 P) < zp_ni P then zp_fx (zp_d1 P) else zp_d1 P := by
  show (if zp_ni (zp_d1 P) < zp_ni P then zp_dr (zp_ni P) (zp_d1 P) else zp_d1 P) = _
  by_cases c : zp_ni (zp_d1 P) < zp_ni P
  · rw [if_pos c, if_pos c]
    exact zp_dr_fuel _ _ _ c (by omega)
  · rw [if_neg c, if_neg c]
theorem zp_fx_all : ∀ n P, zp_ni P ≤ n → zp_V P → zp_ni (zp_fx P) ≤ zp_ni P ∧ zp_V (zp_fx P) := by
  intro n
  induction n with
  | zero =>
    intro P h hV
    have := zp_d1_ni P
    rw [zp_fx_step, if_neg (by omega)]
    exact ⟨this, zp_d1_V hV⟩
  | succ n ih =>
    intro P h hV
    have := zp_d1_ni P
    rw [zp_fx_step]
    by_cases c : zp_ni (zp_d1 P) < zp_ni P
    · rw [if_pos c]
      obtain ⟨a, b⟩ := ih (zp_d1 P) (by omega) (zp_d1_V hV)
      exact ⟨by omega, b⟩
    · rw [if_neg c]
      exact ⟨this, zp_d1_V hV⟩
/-- what is below the place of a removal stays -/
theorem zp_rm_lo (P : zp_T) {n i : Nat} (h : i < n) : (zp_rm P n).2.2.2.2 i = P.2.2.2.2 i := if_pos h
section ZYB2
variable {M : mm_T} {s : zy_T}
theorem ze_isDeadE {N : mm_T} {P Q : zp_T} (hL : zk_L N) (zd : ∀ p, zp_pt P p → ∀ v, v < 32 → (bt (mm_I N 30 p) v = true ↔ ∃ q, zp_sc P p q ∧ zp_LV P v q)) (hP : zo_P N 45) (hH : zo_H N 45 Q) (hQ : zp_V Q) (hV : zp_V P) {i : Nat} (hi : i < zp_ni P) (hiQ : i < zp_ni Q) (ei : Q.2.2.2.2 i = P.2.2.2.2 i) : ff_L_isDeadAt 28 45 (nI i) N = some (zb_B (zp_b (zp_DD P i))) := by
  have hni := hV.2.2.1
  have e28 : (mm_k N 28).1 = 4 := by rw [hL.1]
  have edf : zp_df Q i = zp_df P i := by unfold zp_df zp_k zp_t; rw [ei]
  unfold ff_L_isDeadAt
  rw [zq_gd e28, zr_definedAt hP hH hQ (p := i) (Or.inl hiQ), Option.bind_some, edf]
  cases e : zp_df P i with
  | none =>
    rw [if_pos (show zo_N none = -1 from rfl), zp_bF (fun ⟨t, z, _⟩ => by rw [e] at z; cases z)]
    rfl
  | some t =>
    have ht : t < 8 := zp_df_lt hV (Or.inl hi) e
    rw [if_neg (show ¬ zo_N (some t) = -1 from zi_n1 (by omega)), zg_R e28, Option.bind_some, hL.2.1.2, zd_at hL.2.2.2 (show i < 52 by omega) (by omega), Option.bind_some, show zo_N (some t) = nI t from rfl, zb_hasBit (by omega), Option.bind_some]
    have key := zd i (Or.inl hi) t (by omega)
    cases eb : bt (mm_I N 30 i) t with
    | true =>
      rw [if_neg (by decide), zp_bF (fun z => (zp_DD_iff hV hi e).mp z (key.mp eb))]
      rfl
    | false =>
      rw [if_pos (by decide), zp_b_iff.mpr ((zp_DD_iff hV hi e).mpr (fun z => by rw [key.mpr z] at eb; cases eb))]
      rfl
/-- one round of the class -/
theorem zy_dropDead {P : zp_T} (hq : zc_Q M P) (zd : zd_L M P) : ∃ M', ff_D_dropDead 1 28 M = some (zb_B (decide (zp_ni (zp_d1 P) < zp_ni P)), M') ∧ zf_F M M' (zo_A 45) ∧ zo_H M' 45 (zp_d1 P) := by
  have hV := hq.2.1.2.2
  have hni := hV.2.2.1
  suffices goal : zh_H (ff_D_dropDead 1 28 M) (fun y => ∃ M', y = (zb_B (decide (zp_ni (zp_d1 P) < zp_ni P)), M') ∧ zf_F M M' (zo_A 45) ∧ zo_H M' 45 (zp_d1 P)) by
    obtain ⟨y, e, M', rfl, q⟩ := goal
    exact ⟨M', e, q⟩
  unfold ff_D_dropDead
  rw [zq_gd (zc_e1 hq), zg_R (zc_e1 hq), Option.bind_some, hq.1.2.1, zr_instr hq.2.1.1 hq.2.1.2.1, Option.bind_some, Option.bind_some]
  refine zh_loop (F := fun fu (σ : Nat × Bool × mm_T) => lf_D_dropDead_12 1 28 fu (zb_B σ.2.1) (nI σ.1 - 1) σ.2.2) (fun σ => zf_F M σ.2.2 (zo_A 45) ∧ ∃ Q, zo_H σ.2.2 45 Q ∧ zp_V Q ∧ σ.1 ≤ zp_ni Q ∧ zp_ni Q ≤ zp_ni P ∧ (∀ i, i < σ.1 → Q.2.2.2.2 i = P.2.2.2.2 i) ∧ zp_rd (fun i => zp_b (zp_DD P i)) σ.1 Q = zp_d1 P ∧ (σ.2.1 = true ↔ zp_ni Q < zp_ni P)) (fun σ => σ.1) ?_ fu_L (zp_ni P, false, M) ⟨zf_rfl _ _, P, hq.2.1.2.1, hV, Nat.le_refl _, Nat.le_refl _, fun _ _ => rfl, rfl, by constructor; (intro z; cases z); (intro z; exact absurd z (Nat.lt_irrefl _))⟩ (by rw [zs_fuel]; show zp_ni P < _; omega)
  intro fu σ ⟨g1, Q, g2, g3, g4, g5, g6, g7, g8⟩ k
  obtain ⟨n, c, N⟩ := σ
  simp only at g1 g2 g3 g4 g5 g6 g7 g8
  have hl := zl_F g1
  have kD := hq.1.keepL hl
  have e1 : (mm_k N 1).1 = 10 := by rw [kD.1]
  have hPN := hq.2.1.1.keep g1
  have hL := hq.2.2.1.2.2.1.keepL hl
  show zh_H (lb_D_dropDead_12 1 28 (lf_D_dropDead_12 1 28 fu) (zb_B c) (nI n - 1) N) _
  unfold lb_D_dropDead_12
  by_cases n0 : n = 0
  · subst n0
    rw [if_pos (by decide), zb_Zok, Option.bind_some]
    have eQ : Q = zp_d1 P := g7
    rw [← eQ]
    refine zh_some ⟨N, ?_, g1, g2⟩
    congr 1
    cases c with
    | true => rw [decide_eq_true (g8.mp rfl)]
    | false => rw [decide_eq_false (fun z => by have := g8.mpr z; cases this)]
  · have en : nI n - (1 : Int32) = nI (n - 1) := zi_sub (b := 1) (by omega)
    have hi : n - 1 < zp_ni P := by omega
    have hiQ : n - 1 < zp_ni Q := by omega
    have eD := ze_isDeadE hL (fun p hp v hv => by rw [zf_i g1 (by unfold zo_A; omega)]; exact zd.2 p hp v hv) hPN g2 g3 hV hi hiQ (g6 _ (by omega))
    rw [en, if_neg (nI_pos (by omega)), zg_R e1, Option.bind_some, kD.2.1, eD, Option.bind_some, zq_jp]
    obtain ⟨m, rfl⟩ : ∃ m, n = m + 1 := ⟨n - 1, by omega⟩
    rw [Nat.add_sub_cancel] at *
    have g7' : zp_rd (fun i => zp_b (zp_DD P i)) m (if zp_b (zp_DD P m) = true then zp_rm Q m else Q) = zp_d1 P := g7
    have ez : nI m + (-1 : Int32) = nI m - 1 := by rw [Int32.sub_eq_add_neg]
    cases ed : zp_b (zp_DD P m) with
    | false =>
      rw [ed, if_neg (by decide)] at g7'
      rw [if_pos (by decide)]
      show zh_H ((some (nI m + (-1 : Int32))).bind fun x7 => lf_D_dropDead_12 1 28 fu (zb_B c) x7 N) _
      rw [Option.bind_some, ez]
      exact k (m, c, N) ⟨g1, Q, g2, g3, by show m ≤ _; omega, g5, fun i hi => g6 i (by have : i < m := hi; omega), g7', g8⟩ (by show m < m + 1; omega)
    | true =>
      rw [ed, if_pos rfl] at g7'
      obtain ⟨N2, e2, f2, h2⟩ := zo_remove hPN g2 g3 hiQ
      rw [if_neg (by decide), Option.bind_some, e2, Option.bind_some]
      show zh_H ((some (nI m + (-1 : Int32))).bind fun x7 => lf_D_dropDead_12 1 28 fu (zb_B true) x7 N2) _
      rw [Option.bind_some, ez]
      have e' : zp_ni (zp_rm Q m) = zp_ni Q - 1 := rfl
      exact k (m, true, N2) ⟨zf_tr g1 f2, zp_rm Q m, h2, zp_rm_V g3 hiQ, by show m ≤ zp_ni (zp_rm Q m); omega, by omega, fun i hi => by rw [zp_rm_lo Q hi]; exact g6 i (by have : i < m := hi; omega), g7', ⟨fun _ => by omega, fun _ => rfl⟩⟩ (by show m < m + 1; omega)
noncomputable def zv_removeDead (s : zy_T) : Int32 × zy_T := (nI (zp_ni (zy_P s) - zp_ni (zp_fx (zy_P s))), zy_ed s (zp_fx (zy_P s)))
theorem zy_removeDead (h : zy_C M s) (hB : mm_n M + 8 < st_B) : ∃ M', ff_D_removeDead 1 M = some ((zv_removeDead s).1, M') ∧ zy_Y M M' zy_A 100 2000 ∧ zy_C M' (zv_removeDead s).2 := by
  have hV := h.2.2.1.2.2
  have hni := hV.2.2.1
  obtain ⟨M1, e1, y1, C1⟩ := zy_keep h hB
  have C1' : zy_C M1 (zy_ed s (zy_P s)) := C1
  unfold ff_D_removeDead
  rw [zq_gd (zc_e1 h.2), zg_R (zc_e1 h.2), Option.bind_some, h.2.1.2.1, zr_instr h.2.2.1.1 h.2.2.1.2.1, Option.bind_some, zg_R (zc_e1 h.2), Option.bind_some, h.2.1.2.2.2.2.2.1, Option.bind_some, e1, Option.bind_some]
  suffices goal : zh_H (lf_D_removeDead_23 (fun (M5 : mm_T) => (gf_R M5 1 10 0).bind fun x8 => (gf_I M5 x8 7 1).bind fun x9 => some ((nI (zp_ni (zy_P s)) - x9), M5)) 1 (nI (zp_ni (zy_P s))) fu_L (1 : Int32) (0 : Int32) M1) (fun y => ∃ M', y = ((zv_removeDead s).1, M') ∧ zy_Y M1 M' zy_A 0 0 ∧ zy_C M' (zv_removeDead s).2) by
    obtain ⟨y, e, M', rfl, y2, q⟩ := goal
    exact ⟨M', e, zy_Ywk (zy_Ytr (zy_Ah_A y1) y2) (by omega) (by omega) (fun a _ z => z), q⟩
  have fin : ∀ N, zy_Y M1 N zy_A 0 0 → zy_C N (zy_ed s (zp_fx (zy_P s))) → zh_H ((fun (M5 : mm_T) => (gf_R M5 1 10 0).bind fun x8 => (gf_I M5 x8 7 1).bind fun x9 => some ((nI (zp_ni (zy_P s)) - x9), M5)) N) (fun y => ∃ M', y = ((zv_removeDead s).1, M') ∧ zy_Y M1 M' zy_A 0 0 ∧ zy_C M' (zv_removeDead s).2) := by
    intro N y2 C2
    have a := (zp_fx_all _ _ (Nat.le_refl _) hV).1
    show zh_H ((gf_R N 1 10 0).bind _) _
    rw [zg_R (zc_e1 C2.2), Option.bind_some, C2.2.1.2.1, zr_instr C2.2.2.1.1 C2.2.2.1.2.1, Option.bind_some]
    refine zh_some ⟨N, ?_, y2, C2⟩
    show (nI (zp_ni (zy_P s)) - nI (zp_ni (zp_fx (zy_P s))), N) = (nI (zp_ni (zy_P s) - zp_ni (zp_fx (zy_P s))), N)
    rw [zi_sub a]
  refine zh_loop (F := fun fu (σ : Bool × Nat × mm_T) => lf_D_removeDead_23 (fun (M5 : mm_T) => (gf_R M5 1 10 0).bind fun x8 => (gf_I M5 x8 7 1).bind fun x9 => some ((nI (zp_ni (zy_P s)) - x9), M5)) 1 (nI (zp_ni (zy_P s))) fu (zb_B σ.1) (nI σ.2.1) σ.2.2) (fun σ => zy_Y M1 σ.2.2 zy_A 0 0 ∧ ∃ Q, zy_C σ.2.2 (zy_ed s Q) ∧ (σ.1 = true → zp_fx Q = zp_fx (zy_P s) ∧ zp_ni Q + σ.2.1 ≤ 40) ∧ (σ.1 = false → Q = zp_fx (zy_P s))) (fun σ => if σ.1 = true then 42 - σ.2.1 else 0) ?_ fu_L (true, 0, M1) ⟨zy_Yrfl _ _, zy_P s, C1', fun _ => ⟨rfl, hni⟩, fun z => by cases z⟩ (by rw [zs_fuel]; show (if true = true then 42 - 0 else 0) < _; rw [if_pos rfl]; omega)
  intro fu σ ⟨g1, Q, g2, g3, g4⟩ k
  obtain ⟨c, r, N⟩ := σ
  simp only at g1 g2 g3 g4
  show zh_H (lb_D_removeDead_23 _ 1 (nI (zp_ni (zy_P s))) (lf_D_removeDead_23 _ 1 (nI (zp_ni (zy_P s))) fu) (zb_B c) (nI r) N) _
  unfold lb_D_removeDead_23
  cases c with
  | false =>
    rw [if_pos (by decide)]
    exact fin N g1 (by rw [← g4 rfl]; exact g2)
  | true =>
    obtain ⟨a1, a2⟩ := g3 rfl
    have hQ : zp_V Q := g2.2.2.1.2.2
    rw [if_neg (by decide), if_neg (show ¬ (40 : Int32) < nI r from nI_nlt (a := 40) (by omega) (by omega))]
    obtain ⟨M2, e2, f2, q2, zd2⟩ := zc_liveness g2.2
    unfold bd_2
    rw [e2, Option.bind_some]
    have C2 : zy_C M2 (zy_ed s Q) := g2.quest (zu_F (ze_zc f2)) q2
    have zd2' : zd_L M2 Q := zd2
    obtain ⟨M3, e3, f3, h3⟩ := zy_dropDead (P := Q) q2 zd2'
    show zh_H ((ff_D_dropDead 1 28 M2).bind _) _
    rw [e3, Option.bind_some]
    have hd1 := zp_d1_V hQ
    have B3 : zy_B M3 (zy_ed s (zp_d1 Q)) := C2.1.keepX (zu_F f3) (fun a _ z => by unfold zo_A at z; omega)
    have Z3 : zc_Z M3 (zp_d1 Q) := q2.z.edit f3 h3 hd1
    obtain ⟨M4, e4, y4, C4⟩ := zy_fresh (s' := zy_ed s (zp_d1 Q)) B3 Z3
    show zh_H ((ff_D_forgetAnalyses 1 M3).bind _) _
    rw [e4, Option.bind_some, Option.bind_some, nI_1]
    have yN : zy_Y M1 M4 zy_A 0 0 := zy_Ytr (zy_Ytr (zy_Ytr g1 (zy_Ywk (zy_YX (zu_F f2)) (Nat.le_refl _) (Nat.le_refl _) (fun a _ z => by unfold ze_A at z; unfold zy_A; omega))) (zy_Ywk (zy_YX (zu_F f3)) (Nat.le_refl _) (Nat.le_refl _) (fun a _ z => by unfold zo_A at z; unfold zy_A; omega))) y4
    have st := zp_fx_step Q
    refine k (decide (zp_ni (zp_d1 Q) < zp_ni Q), r + 1, M4) ⟨yN, zp_d1 Q, C4, fun z => ?_, fun z => ?_⟩ ?_
    · have c := of_decide_eq_true z
      rw [if_pos c] at st
      exact ⟨by rw [← st]; exact a1, by show zp_ni (zp_d1 Q) + (r + 1) ≤ 40; omega⟩
    · have c := of_decide_eq_false z
      rw [if_neg c] at st
      rw [← st]; exact a1
    · show (if decide (zp_ni (zp_d1 Q) < zp_ni Q) = true then 42 - (r + 1) else 0) < (if true = true then 42 - r else 0)
      rw [if_pos (show true = true from rfl)]
      split <;> omega
end ZYB2
