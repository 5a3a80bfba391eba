/-! ===== the class: Liveness ===== -/
theorem zr_usedAt {M : mm_T} {t : Nat} {P : zp_T} (hP : zo_P M t) (hH : zo_H M t P) (hV : zp_V P) {p : Nat} (hp : zp_pt P p) : ∃ x, ff_P_usedAt t (nI p) M = some x ∧ ∀ v, v < 32 → bt x v = zp_us P p v := by
  have h1 := zp_pt_lt hV hp
  have h2 := hV.2.2.1
  have h3 := hV.2.1
  unfold ff_P_usedAt
  rw [zq_gd (by rw [hP.1])]
  by_cases c : p < 40
  · have hi : p < zp_ni P := by rcases hp with q | q <;> omega
    rw [if_pos (show nI p < (40 : Int32) from nI_lt (b := 40) c (by omega)), show (0 : Int32) = nI 0 from rfl, show ff_P_operandAt t (nI p) (1 : Int32) M = ff_P_operandAt t (nI p) (nI 1) M from rfl, zr_operandAt hP hH hV hi (by omega), Option.bind_some, zr_operandAt hP hH hV hi (by omega), Option.bind_some]
    simp only [zq_jp]
    have bits : ∀ o : Option Nat, (∀ v, o = some v → v < 8) → ∀ v, v < 32 → bt (match o with | none => 0 | some w => io_shl 1 (nI w)) v = decide (o = some v) := by
      intro o ho v hv
      cases o with
      | none => simp [b_0]
      | some w =>
        have := ho w rfl
        simp only
        rw [zb_one w (by omega)]
        by_cases q : v = w
        · simp [q]
        · simp [q, Ne.symm q]
    have b0 := bits (zp_op P p 0) (fun v h => zp_op_lt hV hi h)
    have b1 := bits (zp_op P p 1) (fun v h => zp_op_lt hV hi h)
    have e0 : (zo_N (zp_op P p 0) = -1) = (zp_op P p 0 = none) := zo_is1 (fun v h => by have := zp_op_lt hV hi h; omega)
    have e1 : (zo_N (zp_op P p 1) = -1) = (zp_op P p 1 = none) := zo_is1 (fun v h => by have := zp_op_lt hV hi h; omega)
    refine ⟨(match zp_op P p 0 with | none => 0 | some w => io_shl 1 (nI w)) ||| (match zp_op P p 1 with | none => 0 | some w => io_shl 1 (nI w)), ?_, fun v hv => ?_⟩
    · cases c0 : zp_op P p 0 with
      | none =>
        rw [if_pos zo_none]
        cases c1 : zp_op P p 1 with
        | none => rw [if_pos zo_none]; rfl
        | some w =>
          have := zp_op_lt hV hi c1
          rw [zo_some, if_neg (zi_n1 (by omega))]; rfl
      | some u =>
        have := zp_op_lt hV hi c0
        rw [zo_some, if_neg (zi_n1 (by omega))]
        cases c1 : zp_op P p 1 with
        | none => rw [if_pos zo_none]; rfl
        | some w =>
          have := zp_op_lt hV hi c1
          rw [zo_some, if_neg (zi_n1 (by omega))]
    · unfold zp_us
      rw [if_pos c, b_or, b0 v hv, b1 v hv]
  · have hb : p - 40 < zp_nb P := by rcases hp with q | q <;> omega
    have hw := zp_w_le hV hb
    rw [if_neg (show ¬ nI p < (40 : Int32) from nI_nlt (b := 40) (by omega) (by omega)), show (40 : Int32) = nI 40 from rfl, zi_sub (by omega), Option.bind_some, zg_R (by rw [hP.1]), Option.bind_some, hP.2.1.2.2.1, zd_at hP.2.2.2.2.1 (by omega) (by omega), hH.2.2.2.2.1 _ hb, Option.bind_some]
    by_cases c2 : zp_w P (p - 40) = 2
    · have hx : zp_x P (p - 40) < 8 := ((hV.2.2.2.2.2.2.1 _ hb).2.2 c2).1
      rw [if_pos (show nI (zp_w P (p - 40)) = (2 : Int32) by rw [c2]; rfl), zg_R (by rw [hP.1]), Option.bind_some, hP.2.1.2.2.2.1, zd_at hP.2.2.2.2.2.1 (by omega) (by omega), hH.2.2.2.2.2.1 _ hb c2, Option.bind_some]
      refine ⟨_, rfl, fun v hv => ?_⟩
      unfold zp_us
      rw [if_neg c, zb_one _ (by omega)]
      by_cases q : v = zp_x P (p - 40)
      · simp [q, c2]
      · simp [q, c2, Ne.symm q]
    · rw [if_neg (show ¬ nI (zp_w P (p - 40)) = (2 : Int32) from fun h => c2 ((nI_eq (b := 2) (by omega) (by omega)).mp h))]
      refine ⟨0, rfl, fun v hv => ?_⟩
      unfold zp_us
      rw [if_neg c, b_0]
      simp [c2]
def zp_LV (P : zp_T) (v p : Nat) : Prop := v < 8 ∧ zs_R (fun p => zp_pt P p ∧ zp_us P p v = true) (fun q p => zp_sc P p q ∧ zp_df P p ≠ some v) p
theorem zp_LV_pt {P : zp_T} {v p : Nat} (h : zp_LV P v p) : zp_pt P p := by
  rcases zs_inv h.2 with q | ⟨x, _, q⟩
  · exact q.1
  · exact q.1.1
theorem zp_us_lt {P : zp_T} (hV : zp_V P) {p v : Nat} (hp : zp_pt P p) (h : zp_us P p v = true) : v < 8 := by
  have h2 := hV.2.2.1
  unfold zp_us at h
  split at h
  · rename_i c
    have hi : p < zp_ni P := by rcases hp with q | q <;> omega
    simp only [Bool.or_eq_true, decide_eq_true_eq] at h
    rcases h with h | h <;> exact zp_op_lt hV hi h
  · have hb : p - 40 < zp_nb P := by rcases hp with q | q <;> omega
    simp only [Bool.and_eq_true, decide_eq_true_eq] at h
    have := ((hV.2.2.2.2.2.2.1 _ hb).2.2 h.1).1
    rw [← h.2]
    exact this
/-- the Liveness object: 28, its rows 29, 30 -/
def zk_L (M : mm_T) : Prop := mm_k M 28 = (4, 0) ∧ (mm_R M 28 1 = 29 ∧ mm_R M 28 2 = 30) ∧ mm_k M 29 = (20, 52) ∧ mm_k M 30 = (20, 52)
theorem zk_L.keep {M M' : mm_T} {A : Nat → Prop} (h : zk_L M) (hf : zf_F M M' A) : zk_L M' := by
  unfold zk_L
  simp only [zf_k hf, zf_R hf]
  exact h
def ze_A (a : Nat) : Prop := 28 ≤ a ∧ a ≤ 30
def zd_L (M : mm_T) (P : zp_T) : Prop := (∀ p, p < 52 → ∀ v, v < 32 → (bt (mm_I M 29 p) v = true ↔ zp_LV P v p)) ∧ ∀ p, zp_pt P p → ∀ v, v < 32 → (bt (mm_I M 30 p) v = true ↔ ∃ q, zp_sc P p q ∧ zp_LV P v q)
def ze_bit (N : mm_T) (x : Nat) : Bool := bt (mm_I N 29 (x / 32)) (x % 32)
def ze_mu (N : mm_T) : Nat := fb_ct (fun x => !ze_bit N x) 1664
/-- live behind p, by what is live before the points -/
def ze_out (N : mm_T) (P : zp_T) (p v : Nat) : Prop := ∃ k, k < zp_nc P p ∧ bt (mm_I N 29 (zp_nx P p k)) v = true
def ze_Inv (M : mm_T) (P : zp_T) (N : mm_T) : Prop := zf_F M N ze_A ∧ (∀ p, p < 52 → ∀ v, v < 32 → bt (mm_I N 29 p) v = true → zp_LV P v p) ∧ ∀ p, p < 52 → ∀ v, v < 32 → bt (mm_I N 29 p) v = true → zp_us P p v = true ∨ (zp_df P p ≠ some v ∧ ze_out N P p v)
def ze_St (P : zp_T) (p : Nat) (N : mm_T) : Prop := zp_pt P p → (∀ v, v < 32 → (bt (mm_I N 30 p) v = true ↔ ze_out N P p v)) ∧ ∀ v, v < 32 → (zp_us P p v = true ∨ (zp_df P p ≠ some v ∧ ze_out N P p v)) → bt (mm_I N 29 p) v = true
theorem ze_lt {N N' : mm_T} (h : ∀ p, p < 52 → ∀ v, v < 32 → bt (mm_I N 29 p) v = true → bt (mm_I N' 29 p) v = true) {p : Nat} (hp : p < 52) (hne : mm_I N' 29 p ≠ mm_I N 29 p) : ze_mu N' < ze_mu N := by
  have : ∃ v, v < 32 ∧ ¬ bt (mm_I N' 29 p) v = bt (mm_I N 29 p) v := by
    refine Classical.byContradiction fun hn => hne (b_ext fun i hi => ?_)
    exact Classical.byContradiction fun h3 => hn ⟨i, hi, h3⟩
  obtain ⟨v, hv, h3⟩ := this
  have e1 : (p * 32 + v) / 32 = p := by omega
  have e2 : (p * 32 + v) % 32 = v := by omega
  have h4 : bt (mm_I N 29 p) v = false := by
    cases e : bt (mm_I N 29 p) v with
    | false => rfl
    | true => rw [e, h p hp v hv e] at h3; exact absurd rfl h3
  have h5 : bt (mm_I N' 29 p) v = true := by
    cases e : bt (mm_I N' 29 p) v with
    | true => rfl
    | false => rw [e, h4] at h3; exact absurd rfl h3
  refine zs_ctlt (x := p * 32 + v) (fun k hk hk2 => ?_) (by omega) (by unfold ze_bit; rw [e1, e2, h5]; rfl) (by unfold ze_bit; rw [e1, e2, h4]; rfl)
  unfold ze_bit at hk2 ⊢
  cases e : bt (mm_I N 29 (k / 32)) (k % 32) with
  | false => rfl
  | true => rw [h _ (by omega) _ (by omega) e] at hk2; cases hk2
theorem ze_le {N N' : mm_T} (h : ∀ p, p < 52 → mm_I N' 29 p = mm_I N 29 p) : ze_mu N' ≤ ze_mu N := by
  refine fb_ct_sub (fun k hk hk2 => ?_)
  unfold ze_bit at hk2 ⊢
  rw [← h _ (by omega)]
  exact hk2
theorem ze_flow {M N : mm_T} {P : zp_T} (hR : zk_L M) (hP : zo_P M 45) (hH : zo_H M 45 P) (hV : zp_V P) (hI : ze_Inv M P N) {p : Nat} (hp : zp_pt P p) : ∃ (c : Bool) (N' : mm_T), ff_L_flow 28 45 (nI p) N = some (zb_B c, N') ∧ ze_Inv M P N' ∧ (c = true → ze_mu N' < ze_mu N) ∧ (c = false → (∀ q, mm_I N' 29 q = mm_I N 29 q) ∧ (∀ q, q ≠ p → mm_I N' 30 q = mm_I N 30 q) ∧ ze_St P p N') := by
  have hp52 := zp_pt_lt hV hp
  have hnc := zp_nc_le hV hp
  have keep : ∀ {N}, zf_F M N ze_A → zk_L N ∧ zo_P N 45 ∧ zo_H N 45 P := fun {N} h => ⟨hR.keep h, hP.keep h, hH.keep (fun a q1 q2 k => zf_i h (by unfold ze_A; omega) k)⟩
  obtain ⟨hR1, hP1, hH1⟩ := keep hI.1
  suffices goal : zh_H (ff_L_flow 28 45 (nI p) N) (fun y => ∃ (c : Bool) (N' : mm_T), y = (zb_B c, N') ∧ ze_Inv M P N' ∧ (c = true → ze_mu N' < ze_mu N) ∧ (c = false → (∀ q, mm_I N' 29 q = mm_I N 29 q) ∧ (∀ q, q ≠ p → mm_I N' 30 q = mm_I N 30 q) ∧ ze_St P p N')) by
    obtain ⟨y, e, c, N', rfl, h⟩ := goal
    exact ⟨c, N', e, h⟩
  unfold ff_L_flow
  rw [zq_gd (by rw [hR1.1])]
  refine zh_up (F := fun fu i (x : Int32) => lf_L_flow_5 _ 28 45 (nI p) N fu x i) (zp_nc P p) (fun i x => ∀ v, v < 32 → (bt x v = true ↔ ∃ k, k < i ∧ bt (mm_I N 29 (zp_nx P p k)) v = true)) ?_ ?_ fu_L 0 0 (Nat.zero_le _) (by rw [zs_fuel]; omega) (fun v hv => by rw [b_0]; simp)
  · intro fu i x hi hx k
    show zh_H (lb_L_flow_5 _ 28 45 (nI p) N (lf_L_flow_5 _ 28 45 (nI p) N fu) x (nI i)) _
    unfold lb_L_flow_5
    have hq := zp_pt_lt hV (zp_nx_pt hV hp hi)
    rw [zr_nextCount hP1 hH1 hV hp, Option.bind_some, if_neg (nI_ge hi (by omega)), zg_R (by rw [hR1.1]), Option.bind_some, hR1.2.1.1, zr_nextPoint hP1 hH1 hV hp hi, Option.bind_some, zd_at hR1.2.2.1 hq (by omega), Option.bind_some, Option.bind_some, Option.bind_some, nI_1]
    refine k _ (fun v hv => ?_)
    rw [b_or, Bool.or_eq_true, hx v hv]
    constructor
    · rintro (⟨j, h1, h2⟩ | h)
      · exact ⟨j, by omega, h2⟩
      · exact ⟨i, by omega, h⟩
    · rintro ⟨j, h1, h2⟩
      rcases Nat.lt_or_ge j i with c | c
      · exact Or.inl ⟨j, c, h2⟩
      · rw [show j = i by omega] at h2; exact Or.inr h2
  · intro fu x hx
    show zh_H (lb_L_flow_5 _ 28 45 (nI p) N (lf_L_flow_5 _ 28 45 (nI p) N fu) x (nI (zp_nc P p))) _
    unfold lb_L_flow_5
    rw [zr_nextCount hP1 hH1 hV hp, Option.bind_some, if_pos (nI_le (Nat.le_refl _) (by omega))]
    dsimp only
    rw [zg_R (by rw [hR1.1]), Option.bind_some, hR1.2.1.2, zd_put hR1.2.2.2 hp52 (by omega), Option.bind_some]
    have f1 : zf_F N (mm_sI N 30 p x) ze_A := zf_I (by unfold ze_A; omega) _ _
    obtain ⟨hR2, hP2, hH2⟩ := keep (zf_tr hI.1 f1)
    obtain ⟨u, eu, hu⟩ := zr_usedAt hP2 hH2 hV hp
    rw [zr_definedAt hP2 hH2 hV hp, Option.bind_some, zq_jp]
    -- the new set
    have fin : ∀ y : Int32, (∀ v, v < 32 → (bt y v = true ↔ (zp_df P p ≠ some v ∧ ze_out N P p v))) → zh_H (((ff_P_usedAt 45 (nI p) (mm_sI N 30 p x)).bind fun x11 => (some (y ||| x11)).bind fun x12 => (gf_R (mm_sI N 30 p x) 28 4 1).bind fun x13 => (ff_D_at_a x13 (nI p) (mm_sI N 30 p x)).bind fun x14 => jp_J (α := Int32 → Option (Int32 × mm_T)) (fun (x15 : Int32) => (gf_R (mm_sI N 30 p x) 28 4 1).bind fun x16 => (ff_D_put_a x16 (nI p) x12 (mm_sI N 30 p x)).bind fun M2 => (zb_Z x15).bind fun w => some (w, M2)) fun j94 => if x12 = x14 then (j94 (0 : Int32)) else (j94 (1 : Int32)))) (fun y => ∃ (c : Bool) (N' : mm_T), y = (zb_B c, N') ∧ ze_Inv M P N' ∧ (c = true → ze_mu N' < ze_mu N) ∧ (c = false → (∀ q, mm_I N' 29 q = mm_I N 29 q) ∧ (∀ q, q ≠ p → mm_I N' 30 q = mm_I N 30 q) ∧ ze_St P p N')) := by
      intro y hy
      rw [eu, Option.bind_some, Option.bind_some, zg_R (by rw [hR2.1]), Option.bind_some, hR2.2.1.1, zd_at hR2.2.2.1 hp52 (by omega), Option.bind_some, zq_jp]
      have ez : ∀ v, v < 32 → (bt (y ||| u) v = true ↔ (zp_us P p v = true ∨ (zp_df P p ≠ some v ∧ ze_out N P p v))) := by
        intro v hv
        rw [b_or, Bool.or_eq_true, hy v hv, hu v hv]
        exact Or.comm
      have e29 : mm_I (mm_sI N 30 p x) 29 p = mm_I N 29 p := by rw [zm_II, if_neg (by omega)]
      rw [e29]
      have r29 : ∀ q, mm_I (mm_sI (mm_sI N 30 p x) 29 p (y ||| u)) 29 q = if q = p then y ||| u else mm_I N 29 q := by
        intro q
        rw [zm_II, zm_II, if_neg (show ¬ (29 = 30 ∧ q = p) by omega)]
        simp
      have r30 : ∀ q, mm_I (mm_sI (mm_sI N 30 p x) 29 p (y ||| u)) 30 q = if q = p then x else mm_I N 30 q := by
        intro q
        rw [zm_II, zm_II, if_neg (show ¬ (30 = 29 ∧ q = p) by omega)]
        simp
      have grow : ∀ q, q < 52 → ∀ v, v < 32 → bt (mm_I N 29 q) v = true → bt (mm_I (mm_sI (mm_sI N 30 p x) 29 p (y ||| u)) 29 q) v = true := by
        intro q hq v hv h
        rw [r29]
        split
        · rename_i c
          subst c
          exact (ez v hv).mpr (hI.2.2 q hq v hv h)
        · exact h
      have sound : ∀ v, v < 32 → bt (y ||| u) v = true → zp_LV P v p := by
        intro v hv h
        rcases (ez v hv).mp h with h | ⟨h1, k, h2, h3⟩
        · exact ⟨zp_us_lt hV hp h, zs_in ⟨hp, h⟩⟩
        · have hq := zp_pt_lt hV (zp_nx_pt hV hp h2)
          have h4 := hI.2.1 _ hq v hv h3
          exact ⟨h4.1, zs_go h4.2 ⟨⟨hp, k, h2, rfl⟩, h1⟩⟩
      have hInv : ze_Inv M P (mm_sI (mm_sI N 30 p x) 29 p (y ||| u)) := by
        refine ⟨zf_tr (zf_tr hI.1 f1) (zf_I (by unfold ze_A; omega) _ _), fun q hq v hv h => ?_, fun q hq v hv h => ?_⟩
        · rw [r29] at h
          split at h
          · rename_i c; subst c; exact sound v hv h
          · exact hI.2.1 q hq v hv h
        · have up : ∀ q, zp_pt P q → ze_out N P q v → ze_out (mm_sI (mm_sI N 30 p x) 29 p (y ||| u)) P q v := by
            rintro q hq ⟨k, h2, h3⟩
            exact ⟨k, h2, grow _ (zp_pt_lt hV (zp_nx_pt hV hq h2)) v hv h3⟩
          rw [r29] at h
          split at h
          · rename_i c
            subst c
            rcases (ez v hv).mp h with h | ⟨h1, h2⟩
            · exact Or.inl h
            · exact Or.inr ⟨h1, up _ hp h2⟩
          · rcases hI.2.2 q hq v hv h with h2 | ⟨h1, h2⟩
            · exact Or.inl h2
            · exact Or.inr ⟨h1, up _ (zp_LV_pt (hI.2.1 q hq v hv h)) h2⟩
      by_cases c : y ||| u = mm_I N 29 p
      · rw [if_pos c]
        simp only [Option.bind_some, zd_put hR2.2.2.1 hp52 (by omega), zb_Z0]
        have s29 : ∀ q, mm_I (mm_sI (mm_sI N 30 p x) 29 p (y ||| u)) 29 q = mm_I N 29 q := by
          intro q
          rw [r29]
          split
          · rename_i c2; rw [c2, c]
          · rfl
        have same : ∀ v, ze_out (mm_sI (mm_sI N 30 p x) 29 p (y ||| u)) P p v ↔ ze_out N P p v := by
          intro v
          unfold ze_out
          simp only [s29]
        refine zh_some ⟨false, _, rfl, hInv, (by intro h; cases h), fun _ => ⟨s29, fun q hq => by rw [r30, if_neg hq], fun _ => ⟨fun v hv => ?_, fun v hv h => ?_⟩⟩⟩
        · rw [r30, if_pos rfl, same]
          exact hx v hv
        · rw [same] at h
          rw [r29, if_pos rfl]
          exact (ez v hv).mpr h
      · rw [if_neg c]
        simp only [Option.bind_some, zd_put hR2.2.2.1 hp52 (by omega), zb_Z1]
        refine zh_some ⟨true, _, rfl, hInv, fun _ => ze_lt grow hp52 (by rw [r29, if_pos rfl]; exact c), by intro h; cases h⟩
    have hxo : ∀ v, v < 32 → (bt x v = true ↔ ze_out N P p v) := hx
    cases e : zp_df P p with
    | none =>
      rw [if_pos zo_none]
      refine fin x (fun v hv => ?_)
      rw [hxo v hv, e]
      simp
    | some t =>
      have ht := zp_df_lt hV hp e
      rw [zo_some, if_neg (zi_n1 (by omega)), Option.bind_some]
      refine fin _ (fun v hv => ?_)
      rw [b_and, zb_not _ hv, zb_one t (by omega), Bool.and_eq_true, hxo v hv, e]
      constructor
      · rintro ⟨h1, h2⟩
        refine ⟨fun q => ?_, h1⟩
        rw [Option.some.inj q] at h2
        simp at h2
      · rintro ⟨h1, h2⟩
        refine ⟨h2, ?_⟩
        have : v ≠ t := fun q => h1 (by rw [q])
        simp [this]
theorem ze_all {M N : mm_T} {P : zp_T} (hV : zp_V P) (hI : ze_Inv M P N) (hS : ∀ p, p < 52 → ze_St P p N) : zd_L N P := by
  have a : ∀ p, p < 52 → ∀ v, v < 32 → (bt (mm_I N 29 p) v = true ↔ zp_LV P v p) := by
    refine fun p hp v hv => ⟨hI.2.1 p hp v hv, fun h => ?_⟩
    refine zs_ind (S := fun p => bt (mm_I N 29 p) v = true) (fun q hq => ?_) (fun x q _ hx hq => ?_) h.2
    · exact (hS q (zp_pt_lt hV hq.1) hq.1).2 v hv (Or.inl hq.2)
    · obtain ⟨⟨h1, k, h2, h3⟩, h4⟩ := hq
      exact (hS q (zp_pt_lt hV h1) h1).2 v hv (Or.inr ⟨h4, k, h2, h3 ▸ hx⟩)
  refine ⟨a, fun p hp v hv => ?_⟩
  rw [(hS p (zp_pt_lt hV hp) hp).1 v hv]
  constructor
  · rintro ⟨k, h1, h2⟩
    exact ⟨_, ⟨hp, k, h1, rfl⟩, (a _ (zp_pt_lt hV (zp_nx_pt hV hp h1)) v hv).mp h2⟩
  · rintro ⟨q, ⟨_, k, h1, rfl⟩, h2⟩
    exact ⟨k, h1, (a _ (zp_pt_lt hV (zp_nx_pt hV hp h1)) v hv).mpr h2⟩
theorem ze_analyse {M : mm_T} {P : zp_T} (hR : zk_L M) (hP : zo_P M 45) (hH : zo_H M 45 P) (hV : zp_V P) : ∃ M', ff_L_analyse 28 45 M = some M' ∧ zf_F M M' ze_A ∧ zd_L M' P ∧ mm_I M' 28 0 = 1 := by
  unfold ff_L_analyse
  rw [zq_gd (by rw [hR.1]), zg_R (by rw [hR.1]), Option.bind_some, hR.2.1.1]
  obtain ⟨M1, e1, f1, g1, r1⟩ := zf_fillI hR.2.2.1 (by omega) 0
  rw [e1, Option.bind_some]
  have hR1 := hR.keep f1
  rw [zg_R (by rw [hR1.1]), Option.bind_some, hR1.2.1.2]
  obtain ⟨M2, e2, f2, g2, r2⟩ := zf_fillI hR1.2.2.2 (by omega) 0
  rw [e2, Option.bind_some]
  have f12 : zf_F M M2 ze_A := zf_tr (zf_mono f1 (fun a h => by unfold ze_A; omega)) (zf_mono f2 (fun a h => by unfold ze_A; omega))
  have z29 : ∀ p, p < 52 → mm_I M2 29 p = 0 := fun p hp => by rw [zf_i f2 (by omega), r1 p, if_pos hp]
  have hI2 : ze_Inv M P M2 := ⟨f12, fun p hp v hv h => (by rw [z29 p hp, b_0] at h; cases h), fun p hp v hv h => (by rw [z29 p hp, b_0] at h; cases h)⟩
  have keep : ∀ {N}, ze_Inv M P N → zk_L N ∧ zo_P N 45 ∧ zo_H N 45 P := fun {N} h => ⟨hR.keep h.1, hP.keep h.1, hH.keep (fun a q1 q2 k => zf_i h.1 (by unfold ze_A; omega) k)⟩
  refine zs_fix (Fin := fun r cont fu q i N => lf_L_analyse_36 cont 28 45 (nI r) fu q (if i < 52 then nI (51 - i) else -1) N) (Fout := fun fu q r N => lf_L_analyse_20 (fun (M6 : mm_T) => (pf_Z M6 28 4 0 (1 : Int32)).bind fun M7 => some M7) 28 45 fu q (nI r) N) (k0 := fun (M6 : mm_T) => (pf_Z M6 28 4 0 (1 : Int32)).bind fun M7 => some M7) (Q := fun M' => zf_F M M' ze_A ∧ zd_L M' P ∧ mm_I M' 28 0 = 1) 52 1664 (ze_Inv M P) (fun i => ze_St P (51 - i)) ze_mu (fun i N c N' => ze_Inv M P N' ∧ (c = true → ze_mu N' < ze_mu N) ∧ (c = false → (∀ q, mm_I N' 29 q = mm_I N 29 q) ∧ (∀ q, q ≠ 51 - i → mm_I N' 30 q = mm_I N 30 q) ∧ ze_St P (51 - i) N')) ?_ ?_ ?_ ?_ ?_ (by rw [zs_fuel]; omega) (by omega) ?_ fu_L 0 _ hI2 (by rw [Nat.zero_add]; exact fb_ct_le _ _) (by rw [zs_fuel]; omega)
  · intro r cont fu q i N hi hI k
    obtain ⟨hR', hP', hH'⟩ := keep hI
    show zh_H (lf_L_analyse_36 cont 28 45 (nI r) (fu + 1) q (if i < 52 then nI (51 - i) else -1) N) _
    rw [if_pos hi]
    show zh_H (lb_L_analyse_36 cont 28 45 (nI r) (lf_L_analyse_36 cont 28 45 (nI r) fu) q (nI (51 - i)) N) _
    have hnext : nI (51 - i) + (-1 : Int32) = if i + 1 < 52 then nI (51 - (i + 1)) else -1 := by
      split
      · rename_i c
        rw [show 51 - i = (51 - (i + 1)) + 1 by omega, nI_succ, Int32.add_assoc]
        rw [show (1 : Int32) + -1 = 0 by decide, Int32.add_zero]
      · rw [show 51 - i = 0 by omega]; decide
    unfold lb_L_analyse_36
    rw [if_neg (nI_pos (by omega)), zr_hasPoint hP' hH' hV (by omega), Option.bind_some, zq_jp]
    cases e : zp_ptb P (51 - i) with
    | false =>
      rw [if_pos zb_f]
      simp only [Option.bind_some, hnext]
      refine k false N ⟨hI, (by intro h; cases h), fun _ => ⟨fun _ => rfl, fun _ _ => rfl, fun hp => ?_⟩⟩
      rw [← zp_ptb_iff, e] at hp
      cases hp
    | true =>
      rw [if_neg (by decide)]
      obtain ⟨c, N', e2, h1, h2, h3⟩ := ze_flow hR hP hH hV hI (zp_ptb_iff.mp e)
      refine zh_at2 e2 ?_
      cases c with
      | true =>
        rw [if_neg (by decide)]
        simp only [Option.bind_some, hnext]
        exact k true N' ⟨h1, h2, h3⟩
      | false =>
        rw [if_pos (by decide)]
        simp only [Option.bind_some, hnext]
        exact k false N' ⟨h1, h2, h3⟩
  · intro r cont fu q N
    show lb_L_analyse_36 cont 28 45 (nI r) (lf_L_analyse_36 cont 28 45 (nI r) fu) q (-1) N = _
    unfold lb_L_analyse_36
    rw [if_pos (by decide)]
  · intro i N c N' hi hI ⟨h1, h2, h3⟩
    refine ⟨h1, h2, fun hc => ?_⟩
    obtain ⟨a1, a2, a3⟩ := h3 hc
    refine ⟨ze_le (fun p _ => a1 p), a3, fun j hj h => ?_⟩
    by_cases c2 : 51 - j = 51 - i
    · rw [c2]; exact a3
    · intro hp
      obtain ⟨s1, s2⟩ := h hp
      have same : ∀ v, ze_out N' P (51 - j) v ↔ ze_out N P (51 - j) v := by
        intro v
        unfold ze_out
        simp only [a1]
      exact ⟨fun v hv => by rw [a2 _ c2, same]; exact s1 v hv, fun v hv q => by rw [a1]; rw [same] at q; exact s2 v hv q⟩
  · intro fu r N
    show lb_L_analyse_20 _ 28 45 _ 0 (nI r) N = _
    unfold lb_L_analyse_20
    rw [if_pos rfl]
  · intro fu r N hr
    show lb_L_analyse_20 _ 28 45 _ 1 (nI r) N = _
    unfold lb_L_analyse_20
    rw [if_neg (by decide), if_neg (show ¬ (100000 : Int32) ≤ nI r from nI_ge (b := 100000) hr (by omega))]
    simp only [Option.bind_some, nI_1]
    rfl
  · intro N hI hS
    obtain ⟨hR', hP', hH'⟩ := keep hI
    rw [zp_Z1 (by rw [hR'.1]), Option.bind_some]
    obtain ⟨a1, a2⟩ := ze_all hV hI (fun p hp => by have := hS (51 - p) (by omega); rwa [show 51 - (51 - p) = p by omega] at this)
    refine zh_some ⟨zf_tr hI.1 (zf_I (by unfold ze_A; omega) _ _), ⟨fun p hp v hv => ?_, fun p hp v hv => ?_⟩, by rw [zm_II, if_pos ⟨rfl, rfl⟩]⟩
    · rw [zm_II, if_neg (by omega)]; exact a1 p hp v hv
    · rw [zm_II, if_neg (by omega)]; exact a2 p hp v hv
