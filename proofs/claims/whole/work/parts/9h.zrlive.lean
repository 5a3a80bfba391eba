/-! ===== answers on liveness, both sides ===== -/
noncomputable def zv_isLiveIn (P : zp_T) (a v : Int32) : Nat × Int32 := if zi_A (zp_nb P) a then (if zi_A 8 v then (0, zb_B (zp_b (zp_LV P (zi_n v) (zp_fp P (zi_n a))))) else (2, 0)) else (1, 0)
noncomputable def zv_isLiveOut (P : zp_T) (a v : Int32) : Nat × Int32 := if zi_A (zp_nb P) a then (if zi_A 8 v then (0, zb_B (zp_b (∃ q, zp_sc P (40 + zi_n a) q ∧ zp_LV P (zi_n v) q))) else (2, 0)) else (1, 0)
noncomputable def zv_liveBefore (P : zp_T) (a : Int32) : Nat × Int32 := if zi_A (zp_ni P) a then (0, nI (zp_ln P (zi_n a))) else (1, 0)
noncomputable def zv_isDead (P : zp_T) (a : Int32) : Nat × Int32 := if zi_A (zp_ni P) a then (0, zb_B (zp_b (zp_DD P (zi_n a)))) else (1, 0)
noncomputable def zv_dead (P : zp_T) : Nat := fb_ct (fun i => zp_b (zp_DD P i)) (zp_ni P)
def zp_max (f : Nat → Nat) : Nat → Nat
  | 0 => 0
  | n + 1 => max (zp_max f n) (f n)
theorem zp_max_ge {f : Nat → Nat} : ∀ {n k : Nat}, k < n → f k ≤ zp_max f n := by
  intro n
  induction n with
  | zero => intro k hk; omega
  | succ n ih =>
    intro k hk
    show f k ≤ max (zp_max f n) (f n)
    rcases Nat.lt_or_ge k n with z | z
    · have := ih z; omega
    · rw [show k = n by omega]; omega
theorem zp_max_le {f : Nat → Nat} {r : Nat} : ∀ {n : Nat}, (∀ k, k < n → f k ≤ r) → zp_max f n ≤ r := by
  intro n
  induction n with
  | zero => intro _; exact Nat.zero_le _
  | succ n ih =>
    intro h
    show max (zp_max f n) (f n) ≤ r
    have h1 := ih (fun k hk => h k (by omega))
    have h2 := h n (by omega)
    omega
noncomputable def zv_pressure (P : zp_T) : Nat := zp_max (zp_ln P) 52
/-- a definition of v at which w, that it doesn't copy, is live behind -/
def zp_clash (P : zp_T) (v w : Nat) : Prop := ∃ i, i < zp_ni P ∧ zp_df P i = some v ∧ ¬ (zp_k P i = 1 ∧ zp_l P i = w) ∧ zp_LV P w (zp_pl P (zp_bk P i) (i + 1))
noncomputable def zv_interfere (P : zp_T) (a b : Int32) : Nat × Int32 := if zi_A 8 a then (if zi_A 8 b then (0, if a = b then 0 else zb_B (zp_b (zp_clash P (zi_n a) (zi_n b) ∨ zp_clash P (zi_n b) (zi_n a)))) else (1, 0)) else (1, 0)
theorem zp_LV_lt {P : zp_T} {v p : Nat} (h : zp_LV P v p) : v < 8 := h.1
theorem zp_sc_one {P : zp_T} (hV : zp_V P) {i q : Nat} (hi : i < zp_ni P) : zp_sc P i q ↔ q = zp_pl P (zp_bk P i) (i + 1) := by
  have hni := hV.2.2.1
  have e : zp_bp P i = zp_bk P i := by unfold zp_bp; rw [if_pos (by omega)]
  constructor
  · intro h
    have := zp_sc_lo hV h (by omega)
    rw [e] at this
    exact this
  · intro h
    rw [h]
    exact zp_sc_in hV (zp_bk_lt hV hi) (zp_bk_lo hV hi) (zp_bk_hi hV hi)
theorem zp_sc_end {P : zp_T} (hV : zp_V P) {b : Nat} (Φ : Nat → Prop) : (∃ q, zp_sc P (40 + b) q ∧ Φ q) ↔ ∃ y, zp_ed P b y = true ∧ Φ (zp_fp P y) := by
  constructor
  · rintro ⟨q, h1, h2⟩
    obtain ⟨y, h3, h4⟩ := zp_sc_hi hV h1 (by omega)
    have e : zp_bp P (40 + b) = b := by unfold zp_bp; rw [if_neg (by omega)]; omega
    rw [e] at h3
    exact ⟨y, h3, by rw [← h4]; exact h2⟩
  · rintro ⟨y, h1, h2⟩
    exact ⟨_, zp_sc_out hV h1, h2⟩
theorem zp_DD_iff {P : zp_T} (hV : zp_V P) {i t : Nat} (hi : i < zp_ni P) (ht : zp_df P i = some t) : zp_DD P i ↔ ¬ ∃ q, zp_sc P i q ∧ zp_LV P t q := by
  unfold zp_DD
  rw [ht]
  constructor
  · rintro ⟨u, e, h⟩ ⟨q, h1, h2⟩
    cases e
    rw [(zp_sc_one hV hi).mp h1] at h2
    exact h h2
  · intro h
    exact ⟨t, rfl, fun q => h ⟨_, (zp_sc_one hV hi).mpr rfl, q⟩⟩
section ZCH
variable {M : mm_T} {P : zp_T}
theorem ze_zc {M M' : mm_T} (f : zf_F M M' ze_A) : zf_F M M' zc_A := zf_mono f (fun a q => by unfold ze_A at q; unfold zc_A; omega)
theorem ze_e28 (q : zc_Q M P) : (mm_k M 28).1 = 4 := by rw [q.2.2.1.2.2.1.1]
theorem ze_liveAt (q : zc_Q M P) {p : Nat} (hp : p < 52) : ff_L_liveAt 28 (nI p) M = some (mm_I M 29 p) := by
  unfold ff_L_liveAt
  rw [zq_gd (ze_e28 q), zg_R (ze_e28 q), Option.bind_some, q.2.2.1.2.2.1.2.1.1, zd_at q.2.2.1.2.2.1.2.2.1 hp (by omega), Option.bind_some]
theorem ze_liveBehind (q : zc_Q M P) {p : Nat} (hp : p < 52) : ff_L_liveBehind 28 (nI p) M = some (mm_I M 30 p) := by
  unfold ff_L_liveBehind
  rw [zq_gd (ze_e28 q), zg_R (ze_e28 q), Option.bind_some, q.2.2.1.2.2.1.2.1.2, zd_at q.2.2.1.2.2.1.2.2.2 hp (by omega), Option.bind_some]
theorem zc_isLiveIn (h : zc_Q M P) (a v : Int32) : zc_O (ff_D_isLiveIn 1 a v M) M P (zr_c ["java/lang/IndexOutOfBoundsException", "java/lang/IllegalArgumentException"] (zv_isLiveIn P a v)) := by
  have hV := h.2.1.2.2
  unfold ff_D_isLiveIn zv_isLiveIn
  rw [zq_gd (zc_e1 h)]
  refine zc_rq h (zc_reqB h a) rfl (fun c => zc_rq h (zc_reqV v M) rfl (fun c2 => ?_))
  obtain ⟨hb, ea⟩ := zi_An c
  obtain ⟨hv, ev⟩ := zi_An c2
  generalize zi_n a = b at hb ea
  generalize zi_n v = w at hv ev
  subst ea ev
  obtain ⟨M', e, f, q, zd⟩ := zc_liveness h
  have h52 := zp_fp52 hV hb
  unfold bd_2
  rw [e, Option.bind_some]
  show zc_O ((gf_R M' 1 10 0).bind _) M P _
  rw [zg_R (zc_e1 q), Option.bind_some, q.1.2.1, zr_firstPoint q.2.1.1 q.2.1.2.1 hV hb, Option.bind_some]
  show zc_O ((ff_L_liveAt 28 (nI (zp_fp P b)) M').bind _) M P _
  rw [ze_liveAt q h52, Option.bind_some, zb_hasBit (by omega), Option.bind_some, zb_Zok, Option.bind_some, zp_b_eq (zd.1 _ h52 w (by omega))]
  exact zc_ret (ze_zc f) q
theorem zc_isLiveOut (h : zc_Q M P) (a v : Int32) : zc_O (ff_D_isLiveOut 1 a v M) M P (zr_c ["java/lang/IndexOutOfBoundsException", "java/lang/IllegalArgumentException"] (zv_isLiveOut P a v)) := by
  have hV := h.2.1.2.2
  have hnb := hV.2.1
  unfold ff_D_isLiveOut zv_isLiveOut
  rw [zq_gd (zc_e1 h)]
  refine zc_rq h (zc_reqB h a) rfl (fun c => zc_rq h (zc_reqV v M) rfl (fun c2 => ?_))
  obtain ⟨hb, ea⟩ := zi_An c
  obtain ⟨hv, ev⟩ := zi_An c2
  generalize zi_n a = b at hb ea
  generalize zi_n v = w at hv ev
  subst ea ev
  obtain ⟨M', e, f, q, zd⟩ := zc_liveness h
  have hP := q.2.1.1
  have pt : zp_pt P (40 + b) := Or.inr ⟨by omega, by omega⟩
  unfold bd_2
  rw [e, Option.bind_some]
  show zc_O ((gf_R M' 1 10 0).bind _) M P _
  rw [zg_R (zc_e1 q), Option.bind_some, q.1.2.1]
  unfold ff_P_exitPoint
  rw [zq_gd (by rw [hP.1]), Option.bind_some, show (40 : Int32) = nI 40 from rfl, nI_add]
  show zc_O ((ff_L_liveBehind 28 (nI (40 + b)) M').bind _) M P _
  rw [ze_liveBehind q (show 40 + b < 52 by omega), Option.bind_some, zb_hasBit (by omega), Option.bind_some, zb_Zok, Option.bind_some, zp_b_eq (zd.2 _ pt w (by omega))]
  exact zc_ret (ze_zc f) q
theorem zc_liveBefore (h : zc_Q M P) (a : Int32) : zc_O (ff_D_liveBefore 1 a M) M P (zr_c ["java/lang/IndexOutOfBoundsException"] (zv_liveBefore P a)) := by
  have hV := h.2.1.2.2
  have hni := hV.2.2.1
  unfold ff_D_liveBefore zv_liveBefore
  rw [zq_gd (zc_e1 h)]
  refine zc_rq h (zc_reqI h a) rfl (fun c => ?_)
  obtain ⟨hb, ea⟩ := zi_An c
  generalize zi_n a = i at hb ea
  subst ea
  obtain ⟨M', e, f, q, zd⟩ := zc_liveness h
  unfold bd_2
  rw [e, Option.bind_some]
  show zc_O ((ff_L_liveAt 28 (nI i) M').bind _) M P _
  rw [ze_liveAt q (show i < 52 by omega), Option.bind_some, zq_I, Option.bind_some]
  have eq : fb_ct (bt (mm_I M' 29 i)) 32 = zp_ln P i := by
    rw [fb_ct_cong (q := fun v => zp_b (zp_LV P v i)) (fun v hv => zp_b_eq (zd.1 i (by omega) v hv))]
    exact zs_cut (by omega) (fun v hv => zp_bF (fun z => by have := zp_LV_lt z; omega))
  rw [eq]
  exact zc_ret (ze_zc f) q
theorem ze_isDeadAt (q : zc_Q M P) (zd : zd_L M P) {i : Nat} (hi : i < zp_ni P) : ff_L_isDeadAt 28 45 (nI i) M = some (zb_B (zp_b (zp_DD P i))) := by
  have hV := q.2.1.2.2
  have hni := hV.2.2.1
  unfold ff_L_isDeadAt
  rw [zq_gd (ze_e28 q), zr_definedAt q.2.1.1 q.2.1.2.1 hV (p := i) (Or.inl hi), Option.bind_some]
  cases e : zp_df P i with
  | none =>
    rw [if_pos (show zo_N none = -1 from rfl), zp_bF (fun ⟨t, z, _⟩ => by rw [e] at z; cases z)]
    rfl
  | some t =>
    have ht : t < 8 := zp_df_lt hV (Or.inl hi) e
    rw [if_neg (show ¬ zo_N (some t) = -1 from zi_n1 (by omega)), zg_R (ze_e28 q), Option.bind_some, q.2.2.1.2.2.1.2.1.2, zd_at q.2.2.1.2.2.1.2.2.2 (show i < 52 by omega) (by omega), Option.bind_some, show zo_N (some t) = nI t from rfl, zb_hasBit (by omega), Option.bind_some]
    have key := zd.2 i (Or.inl hi) t (by omega)
    cases eb : bt (mm_I M 30 i) t with
    | true =>
      rw [if_neg (by decide), zp_bF (fun z => (zp_DD_iff hV hi e).mp z (key.mp eb))]
      rfl
    | false =>
      rw [if_pos (by decide), zp_b_iff.mpr ((zp_DD_iff hV hi e).mpr (fun z => by rw [key.mpr z] at eb; cases eb))]
      rfl
theorem zc_isDead (h : zc_Q M P) (a : Int32) : zc_O (ff_D_isDead 1 a M) M P (zr_c ["java/lang/IndexOutOfBoundsException"] (zv_isDead P a)) := by
  unfold ff_D_isDead zv_isDead
  rw [zq_gd (zc_e1 h)]
  refine zc_rq h (zc_reqI h a) rfl (fun c => ?_)
  obtain ⟨hb, ea⟩ := zi_An c
  generalize zi_n a = i at hb ea
  subst ea
  obtain ⟨M', e, f, q, zd⟩ := zc_liveness h
  unfold bd_2
  rw [e, Option.bind_some]
  show zc_O ((gf_R M' 1 10 0).bind _) M P _
  rw [zg_R (zc_e1 q), Option.bind_some, q.1.2.1]
  show zc_O ((ff_L_isDeadAt 28 45 (nI i) M').bind _) M P _
  rw [ze_isDeadAt q zd hb, Option.bind_some, zb_Zok, Option.bind_some]
  exact zc_ret (ze_zc f) q
theorem ze_countDead (q : zc_Q M P) (zd : zd_L M P) : ff_L_countDead 28 45 M = some (nI (zv_dead P)) := by
  have hV := q.2.1.2.2
  have hni := hV.2.2.1
  unfold ff_L_countDead
  rw [zq_gd (ze_e28 q)]
  refine zh_is (zh_up (F := fun fu i (x : Int32) => lf_L_countDead_4 28 45 M fu x i) (Q := fun y => y = nI (zv_dead P)) (zp_ni P) (fun i x => x = nI (fb_ct (fun i => zp_b (zp_DD P i)) i)) ?_ ?_ fu_L 0 0 (Nat.zero_le _) (by rw [zs_fuel]; omega) rfl)
  · intro fu i x hi hx k
    show zh_H (lb_L_countDead_4 28 45 M (lf_L_countDead_4 28 45 M fu) x (nI i)) _
    unfold lb_L_countDead_4
    rw [zr_instr q.2.1.1 q.2.1.2.1, Option.bind_some, if_neg (nI_ge hi (by omega)), ze_isDeadAt q zd hi, Option.bind_some, zq_jp, hx]
    simp only [Option.bind_some, nI_1]
    cases e : zp_b (zp_DD P i) with
    | true =>
      rw [if_neg (by decide)]
      refine k _ ?_
      rw [fb_ct_succ, e]; rfl
    | false =>
      rw [if_pos (by decide), Int32.add_zero]
      refine k _ ?_
      rw [fb_ct_succ, e]; rfl
  · intro fu x hx
    show zh_H (lb_L_countDead_4 28 45 M (lf_L_countDead_4 28 45 M fu) x (nI (zp_ni P))) _
    unfold lb_L_countDead_4
    rw [zr_instr q.2.1.1 q.2.1.2.1, Option.bind_some, if_pos (nI_le (Nat.le_refl _) (by omega)), hx]
    exact zh_some rfl
theorem zc_deadDefinitions (h : zc_Q M P) : zc_I (ff_D_deadDefinitions 1 M) M P (nI (zv_dead P)) := by
  unfold ff_D_deadDefinitions
  rw [zq_gd (zc_e1 h)]
  obtain ⟨M', e, f, q, zd⟩ := zc_liveness h
  unfold bd_2
  rw [e, Option.bind_some]
  show zc_I ((gf_R M' 1 10 0).bind _) M P _
  rw [zg_R (zc_e1 q), Option.bind_some, q.1.2.1]
  show zc_I ((ff_L_countDead 28 45 M').bind _) M P _
  rw [ze_countDead q zd, Option.bind_some]
  exact ⟨M', rfl, ze_zc f, q⟩
theorem zi_max {a b : Nat} (ha : a < 2 ^ 31) (hb : b < 2 ^ 31) (M : mm_T) : ff_JM_max (nI a) (nI b) M = some (nI (max a b)) := by
  unfold ff_JM_max
  by_cases c : a < b
  · rw [if_pos ((nI_ltI ha hb).mpr c), Nat.max_eq_right (by omega)]
  · rw [if_neg (fun z => c ((nI_ltI ha hb).mp z)), Nat.max_eq_left (by omega)]
theorem ze_largest (q : zc_Q M P) (zd : zd_L M P) : ff_L_largestSet 28 M = some (nI (zv_pressure P)) := by
  have hV := q.2.1.2.2
  have hle : ∀ p, zp_ln P p ≤ 8 := fun p => fb_ct_le _ _
  unfold ff_L_largestSet
  rw [zq_gd (ze_e28 q)]
  refine zh_is (zh_up (F := fun fu i (x : Int32) => lf_L_largestSet_4 28 M fu x i) (Q := fun y => y = nI (zv_pressure P)) 52 (fun i x => x = nI (zp_max (zp_ln P) i)) ?_ ?_ fu_L 0 0 (Nat.zero_le _) (by rw [zs_fuel]; omega) rfl)
  · intro fu i x hi hx k
    show zh_H (lb_L_largestSet_4 28 M (lf_L_largestSet_4 28 M fu) x (nI i)) _
    unfold lb_L_largestSet_4
    have eq : fb_ct (bt (mm_I M 29 i)) 32 = zp_ln P i := by
      rw [fb_ct_cong (q := fun v => zp_b (zp_LV P v i)) (fun v hv => zp_b_eq (zd.1 i hi v hv))]
      exact zs_cut (by omega) (fun v hv => zp_bF (fun z => by have := zp_LV_lt z; omega))
    have m8 : zp_max (zp_ln P) i ≤ 8 := zp_max_le (fun k _ => hle k)
    have l8 := hle i
    rw [if_neg (show ¬ (52 : Int32) ≤ nI i from nI_ge (b := 52) hi (by omega)), zg_R (ze_e28 q), Option.bind_some, q.2.2.1.2.2.1.2.1.1, zd_at q.2.2.1.2.2.1.2.2.1 hi (by omega), Option.bind_some, zq_I, Option.bind_some, eq, hx, zi_max (by omega) (by omega), Option.bind_some, Option.bind_some, nI_1]
    exact k _ rfl
  · intro fu x hx
    show zh_H (lb_L_largestSet_4 28 M (lf_L_largestSet_4 28 M fu) x (nI 52)) _
    unfold lb_L_largestSet_4
    rw [if_pos (show (52 : Int32) ≤ nI 52 from nI_le (a := 52) (Nat.le_refl _) (by omega)), hx]
    exact zh_some rfl
theorem zc_pressure (h : zc_Q M P) : zc_I (ff_D_pressure 1 M) M P (nI (zv_pressure P)) := by
  unfold ff_D_pressure
  rw [zq_gd (zc_e1 h)]
  obtain ⟨M', e, f, q, zd⟩ := zc_liveness h
  unfold bd_2
  rw [e, Option.bind_some]
  show zc_I ((ff_L_largestSet 28 M').bind _) M P _
  rw [ze_largest q zd, Option.bind_some]
  exact ⟨M', rfl, ze_zc f, q⟩
end ZCH
