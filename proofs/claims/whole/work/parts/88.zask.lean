/-! ===== the reference: questions on reaching ===== -/
/-- a question: a boolean, scratch rows alone are written -/
def zt_Q (X : Option (Int32 × mm_T)) (M : mm_T) (Φ : Prop) : Prop := ∃ (b : Bool) (M' : mm_T), X = some (zb_B b, M') ∧ zf_F M M' zt_A ∧ (b = true ↔ Φ)
theorem zt_QI {X : Option (Int32 × mm_T)} {M M' : mm_T} {Φ : Prop} (h : zf_F M M' zt_A) (hq : zt_Q X M' Φ) : zt_Q X M Φ := by
  obtain ⟨b, N, e, f, g⟩ := hq
  exact ⟨b, N, e, zf_tr h f, g⟩
theorem zt_Qiff {X : Option (Int32 × mm_T)} {M : mm_T} {Φ Ψ : Prop} (h : Φ ↔ Ψ) (hq : zt_Q X M Φ) : zt_Q X M Ψ := by
  obtain ⟨b, N, e, f, g⟩ := hq
  exact ⟨b, N, e, f, g.trans h⟩
/-- a question asked on the way -/
theorem zt_Qbd {ρ : Type} {X : Option (Int32 × mm_T)} {M : mm_T} {Φ : Prop} {k : Int32 → mm_T → Option ρ} {Q : ρ → Prop} (h : zt_Q X M Φ) (h1 : ∀ N, zf_F M N zt_A → Φ → zh_H (k 1 N) Q) (h0 : ∀ N, zf_F M N zt_A → ¬ Φ → zh_H (k 0 N) Q) : zh_H (bd_2 X k) Q := by
  obtain ⟨b, N, e, f, g⟩ := h
  refine zh_at2 e ?_
  cases b with
  | true => exact h1 N f (g.mp rfl)
  | false => exact h0 N f (fun q => by have := g.mpr q; cases this)
theorem zt_Qh {X : Option (Int32 × mm_T)} {M : mm_T} {Φ : Prop} (h : zh_H X (fun y => ∃ (b : Bool) (M' : mm_T), y = (zb_B b, M') ∧ zf_F M M' zt_A ∧ (b = true ↔ Φ))) : zt_Q X M Φ := by
  obtain ⟨y, e, b, M', rfl, f, g⟩ := h
  exact ⟨b, M', e, f, g⟩
theorem zt_Qt {M N : mm_T} {Φ : Prop} (f : zf_F M N zt_A) (h : Φ) : zh_H (some ((1 : Int32), N)) (fun y => ∃ (b : Bool) (M' : mm_T), y = (zb_B b, M') ∧ zf_F M M' zt_A ∧ (b = true ↔ Φ)) := zh_some ⟨true, N, rfl, f, by simp [h]⟩
theorem zt_Qf {M N : mm_T} {Φ : Prop} (f : zf_F M N zt_A) (h : ¬ Φ) : zh_H (some ((0 : Int32), N)) (fun y => ∃ (b : Bool) (M' : mm_T), y = (zb_B b, M') ∧ zf_F M M' zt_A ∧ (b = true ↔ Φ)) := zh_some ⟨false, N, rfl, f, by simp [h]⟩
theorem zt_A55 {M N : mm_T} (h : zf_F M N (fun x => x = 55)) : zf_F M N zt_A := zf_mono h (fun a q => by unfold zt_A; omega)
section ZQ
variable {M : mm_T} {o : Nat} {P : zp_T}
theorem zt_seen {N : mm_T} (hR : zt_R N) (hB : zw_B N) {b : Nat} (hb : b < 12) : ∃ c : Bool, ar_Z N 55 (nI b) = some (zb_B c) ∧ (c = true ↔ zw_s N b) := by
  rw [za_Z hR.2.2.2.2.1 hb (by omega)]
  unfold zw_s
  rcases hB b hb with h | h
  · exact ⟨false, by rw [h]; rfl, by rw [h]; simp⟩
  · exact ⟨true, by rw [h]; rfl, by rw [h]; simp⟩
/-- a walk from the entry and whether a block is seen -/
theorem zt_walk0 (h : zt_S M o P) {vo bo : Option Nat} (hvo : ∀ v, vo = some v → v < 8) (hbo : ∀ v, bo = some v → v < 2 ^ 31) : ∃ M1 M2, ff_M_forgets 52 M = some M1 ∧ ff_M_walks 13 52 (0 : Int32) (zo_N vo) (zo_N bo) M1 = some M2 ∧ zf_F M M2 (fun x => x = 55) ∧ zw_B M2 ∧ ∀ x, x < 12 → (zw_s M2 x ↔ zs_R (fun x => x = 0 ∧ some 0 ≠ bo) (zw_E P vo bo) x) := by
  obtain ⟨M1, e1, f1, g1⟩ := zw_forget h.1
  have h1 : zt_S M1 o P := h.keepA f1 (fun a h => by unfold zt_A; omega)
  obtain ⟨M2, e2, f2, b2, g2⟩ := zw_root hvo hbo h1 (b := 0) h.2.2.2.2.1 g1
  exact ⟨M1, M2, e1, e2, zf_tr f1 f2, b2, g2⟩
theorem zw_RB {P : zp_T} {x : Nat} : zs_R (fun x => x = 0 ∧ some 0 ≠ (none : Option Nat)) (zw_E P none none) x ↔ zp_RB P x := by
  constructor
  · exact fun h => zs_mono (fun q hq => zs_in hq.1) (fun p q hp e => zs_go hp e.2.1) h
  · exact fun h => zs_mono (fun q hq => zs_in ⟨hq, by simp⟩) (fun p q hp e => zs_go hp ⟨(fun v hv => by cases hv), e, by simp⟩) h
theorem zw_AV {P : zp_T} {a x : Nat} : zs_R (fun x => x = 0 ∧ some 0 ≠ some a) (zw_E P none (some a)) x ↔ zp_AV P a x := by
  constructor
  · exact fun h => zs_mono (fun q hq => zs_in ⟨hq.1, fun e => hq.2 (by rw [e])⟩) (fun p q hp e => zs_go hp ⟨e.2.1, fun z => e.2.2 (by rw [z])⟩) h
  · exact fun h => zs_mono (fun q hq => zs_in ⟨hq.1, fun e => hq.2 (Option.some.inj e).symm⟩) (fun p q hp e => zs_go hp ⟨(fun v hv => by cases hv), e.1, fun z => e.2 (Option.some.inj z)⟩) h
theorem zw_FI {P : zp_T} {v x : Nat} : zs_R (fun x => x = 0 ∧ some 0 ≠ (none : Option Nat)) (zw_E P (some v) none) x ↔ zs_R (fun x => x = 0) (zw_E P (some v) none) x := by
  constructor
  · exact fun h => zs_mono (fun q hq => zs_in hq.1) (fun p q hp e => zs_go hp e) h
  · exact fun h => zs_mono (fun q hq => zs_in ⟨hq, by simp⟩) (fun p q hp e => zs_go hp e) h
theorem zt_reached0 (h : zt_S M o P) {bo : Option Nat} (hbo : ∀ v, bo = some v → v < 2 ^ 31) {b : Nat} (hb : b < 12) : zt_Q (ff_M_isReached 52 (nI b) (zo_N bo) M) M (zs_R (fun x => x = 0 ∧ some 0 ≠ bo) (zw_E P none bo) b) := by
  have e52 : (mm_k M 52).1 = 11 := by rw [h.1.1]
  obtain ⟨M1, M2, e1, e2, f2, b2, g2⟩ := zt_walk0 h (vo := none) (bo := bo) (fun v hv => by cases hv) hbo
  have hR2 := h.1.keep f2
  have e52' : (mm_k M2 52).1 = 11 := by rw [hR2.1]
  obtain ⟨c, ec, hc⟩ := zt_seen hR2 b2 hb
  refine ⟨c, M2, ?_, zt_A55 f2, hc.trans (g2 b hb)⟩
  unfold ff_M_isReached
  rw [zq_gd e52, e1, Option.bind_some, show (-1 : Int32) = zo_N none from rfl, e2, Option.bind_some, zg_R e52', Option.bind_some, hR2.2.1.2.2.1, ec, Option.bind_some, zb_Zok, Option.bind_some]
theorem zt_isReached (h : zt_S M o P) {b : Nat} (hb : b < 12) : zt_Q (ff_M_isReached 52 (nI b) (-1) M) M (zp_RB P b) := zt_Qiff zw_RB (zt_reached0 h (bo := none) (fun v hv => by cases hv) hb)
theorem zt_isReachedB (h : zt_S M o P) {a b : Nat} (ha : a < 2 ^ 31) (hb : b < 12) : zt_Q (ff_M_isReached 52 (nI b) (nI a) M) M (zp_AV P a b) := zt_Qiff zw_AV (zt_reached0 h (bo := some a) (fun v hv => by cases hv; exact ha) hb)
/-- the number of reached blocks -/
theorem zt_reachedCount (h : zt_S M o P) : ∃ (n : Nat) (M' : mm_T), ff_M_reachedCount 52 M = some (nI n, M') ∧ zf_F M M' zt_A ∧ n = fb_ct (fun b => zp_nr P 11 b) (zp_nb P) := by
  have hV := h.2.2.2.2
  have hnb := hV.2.1
  have e52 : (mm_k M 52).1 = 11 := by rw [h.1.1]
  obtain ⟨M1, M2, e1, e2, f2, b2, g2⟩ := zt_walk0 h (vo := none) (bo := none) (fun v hv => by cases hv) (fun v hv => by cases hv)
  have hS2 : zt_S M2 o P := h.keepA f2 (fun a h => by unfold zt_A; omega)
  have e52' : (mm_k M2 52).1 = 11 := by rw [hS2.1.1]
  unfold ff_M_reachedCount
  rw [zq_gd e52, e1, Option.bind_some, show (-1 : Int32) = zo_N none from rfl, show zo_N none = zo_N (none : Option Nat) from rfl, e2, Option.bind_some]
  refine ⟨_, M2, zh_is (zh_up (F := fun fu i (x : Int32) => lf_M_reachedCount_15 52 M2 fu x i) (Q := fun y => y = (nI (fb_ct (fun b => zp_nr P 11 b) (zp_nb P)), M2)) (zp_nb P) (fun i x => x = nI (fb_ct (fun b => zp_nr P 11 b) i)) ?_ ?_ fu_L 0 0 (Nat.zero_le _) (by rw [zs_fuel]; omega) rfl), zt_A55 f2, rfl⟩
  · intro fu i x hi hx k
    show zh_H (lb_M_reachedCount_15 52 M2 (lf_M_reachedCount_15 52 M2 fu) x (nI i)) _
    obtain ⟨c, ec, hc⟩ := zt_seen hS2.1 b2 (show i < 12 by omega)
    have hce : c = zp_nr P 11 i := Bool.eq_iff_iff.mpr (hc.trans ((g2 i (by omega)).trans (zw_RB.trans (zp_RB_nr hV))))
    unfold lb_M_reachedCount_15 ff_M_one
    rw [zt_nb hS2, Option.bind_some, if_neg (nI_ge hi (by omega)), zg_R e52', Option.bind_some, hS2.1.2.1.2.2.1, ec, Option.bind_some, hx, hce]
    cases e : zp_nr P 11 i with
    | true =>
      rw [if_neg (by decide), Option.bind_some, Option.bind_some, Option.bind_some, nI_1, nI_1]
      refine k _ ?_
      rw [fb_ct_succ, e]; rfl
    | false =>
      rw [if_pos (by decide), Option.bind_some, Option.bind_some, Option.bind_some, nI_1]
      refine k _ ?_
      rw [fb_ct_succ, e, Int32.add_zero]; rfl
  · intro fu x hx
    show zh_H (lb_M_reachedCount_15 52 M2 (lf_M_reachedCount_15 52 M2 fu) x (nI (zp_nb P))) _
    unfold lb_M_reachedCount_15
    rw [zt_nb hS2, Option.bind_some, if_pos (nI_le (Nat.le_refl _) (by omega)), hx]
    exact zh_some rfl
theorem zt_isFirstAt (h : zt_S M o P) {b v : Nat} (hb : b < 12) (hv : v < 8) : zt_Q (ff_M_isFirstAt 52 (nI b) (nI v) M) M (zs_R (fun x => x = 0) (zw_E P (some v) none) b) := by
  refine zt_Qiff zw_FI ?_
  have e52 : (mm_k M 52).1 = 11 := by rw [h.1.1]
  obtain ⟨M1, M2, e1, e2, f2, b2, g2⟩ := zt_walk0 h (vo := some v) (bo := none) (fun u hu => by cases hu; exact hv) (fun v hv => by cases hv)
  have hR2 := h.1.keep f2
  have e52' : (mm_k M2 52).1 = 11 := by rw [hR2.1]
  obtain ⟨c, ec, hc⟩ := zt_seen hR2 b2 hb
  refine ⟨c, M2, ?_, zt_A55 f2, hc.trans (g2 b hb)⟩
  unfold ff_M_isFirstAt
  rw [zq_gd e52, e1, Option.bind_some, show (-1 : Int32) = zo_N none from rfl, show nI v = zo_N (some v) from rfl, e2, Option.bind_some, zg_R e52', Option.bind_some, hR2.2.1.2.2.1, ec, Option.bind_some, zb_Zok, Option.bind_some]
theorem zt_isFirstAtPlace (h : zt_S M o P) {b k v : Nat} (hb : b < zp_nb P) (h1 : zp_st P b ≤ k) (h2 : k ≤ zp_st P (b + 1)) (hv : v < 8) : zt_Q (ff_M_isFirstAtPlace 52 (nI b) (nI k) (nI v) M) M (zp_RI P v (zp_pl P b k)) := by
  have hV := h.2.2.2.2
  have hnb := hV.2.1
  have e52 : (mm_k M 52).1 = 11 := by rw [h.1.1]
  have hse := zp_st_le hV (b := b + 1) (by omega)
  obtain ⟨a1, a2, a3⟩ := zp_pl_all hV hb h1 h2
  have key : zp_RI P v (zp_pl P b k) ↔ zs_R (fun x => x = 0) (zw_E P (some v) none) b ∧ ¬ zp_dw P (zp_st P b) k v := by
    rw [zp_RI_iff hV]
    unfold zp_RS
    rw [a2, a3]
    exact ⟨fun q => q.2.2, fun q => ⟨hv, a1, q⟩⟩
  refine zt_Qiff key.symm (zt_Qh ?_)
  unfold ff_M_isFirstAtPlace
  obtain ⟨c, ec, hc⟩ := zt_dw h h1 (show k ≤ zp_ni P by omega) (show v < 2 ^ 31 by omega)
  rw [zq_gd e52, zt_firstOf h (by omega), Option.bind_some, ec, Option.bind_some]
  cases c with
  | true =>
    rw [if_neg (by decide)]
    exact zt_Qf (zf_rfl _ _) (fun q => q.2 (hc.mp rfl))
  | false =>
    rw [if_pos (by decide)]
    refine zt_Qbd (zt_isFirstAt h (show b < 12 by omega) hv) (fun N f q => ?_) (fun N f q => ?_)
    · rw [if_neg (by decide)]
      exact zt_Qt f ⟨q, fun z => by have := hc.mpr z; cases this⟩
    · rw [if_pos rfl]
      exact zt_Qf f (fun z => q z.1)
theorem zt_reachesStart (h : zt_S M o P) {d b : Nat} (hd : d < zp_ni P) (hb : b < zp_nb P) : zt_Q (ff_M_reachesStart 52 (nI d) (nI b) M) M (∃ v, zp_df P d = some v ∧ ¬ zp_dw P (d + 1) (zp_st P (zp_bk P d + 1)) v ∧ zs_R (fun y => zp_ed P (zp_bk P d) y = true) (zw_E P (some v) none) b) := by
  have hV := h.2.2.2.2
  have hnb := hV.2.1
  have hni := hV.2.2.1
  have e52 : (mm_k M 52).1 = 11 := by rw [h.1.1]
  have hbl := zp_bk_lt hV hd
  have hhi := zp_bk_hi hV hd
  have hse := zp_st_le hV (b := zp_bk P d + 1) (by omega)
  refine zt_Qh ?_
  unfold ff_M_reachesStart
  rw [zq_gd e52, zt_blockAt h hd, Option.bind_some, zt_t h hd, Option.bind_some, zt_isDef h hd, Option.bind_some]
  have hdf := zt_df h hd
  by_cases c : zp_k P d = 3
  · rw [if_pos (by simp [c, zb_B])]
    refine zt_Qf (zf_rfl _ _) ?_
    rintro ⟨v, e, _⟩
    rw [hdf, if_neg (fun q => q c)] at e
    cases e
  · rw [if_neg (by simp [c, zb_B])]
    rw [if_pos c] at hdf
    have hv : zp_t P d < 8 := zp_df_lt hV (Or.inl hd) hdf
    obtain ⟨w, ew, hw⟩ := zt_dw h (a := d + 1) (show d + 1 ≤ zp_st P (zp_bk P d + 1) by omega) hse (show zp_t P d < 2 ^ 31 by omega)
    rw [zt_endOf h hbl, Option.bind_some, nI_1, ew, Option.bind_some]
    cases w with
    | true =>
      rw [if_neg (by decide)]
      refine zt_Qf (zf_rfl _ _) ?_
      rintro ⟨v, e, h1, _⟩
      rw [hdf] at e
      cases e
      exact h1 (hw.mp rfl)
    | false =>
      rw [if_pos (by decide)]
      have hnw : ¬ zp_dw P (d + 1) (zp_st P (zp_bk P d + 1)) (zp_t P d) := fun q => by have := hw.mpr q; cases this
      obtain ⟨M1, e1, f1, g1⟩ := zw_forget h.1
      have h1 : zt_S M1 o P := h.keepA f1 (fun a h => by unfold zt_A; omega)
      rw [e1, Option.bind_some]
      have hww := zp_w_le hV hbl
      -- the state of the walks: what is seen, closed, and reached
      refine zh_up (F := fun fu i N => lf_M_reachesStart_48 _ 52 (nI b) (nI (zp_bk P d)) (nI (zp_t P d)) fu i N) (zp_w P (zp_bk P d)) (fun i N => zf_F M1 N (fun x => x = 55) ∧ zw_B N ∧ (∀ k, k < i → zw_s N (zp_way P (zp_bk P d) k)) ∧ (∀ x, x < 12 → zw_s N x → zs_R (fun y => zp_ed P (zp_bk P d) y = true) (zw_E P (some (zp_t P d)) none) x) ∧ ∀ x, x < zp_nb P → zw_s N x → ∀ y, zw_E P (some (zp_t P d)) none x y → zw_s N y) ?_ ?_ fu_L 0 M1 (Nat.zero_le _) (by rw [zs_fuel]; omega) ⟨zf_rfl _ _, fun x hx => Or.inl (g1 x hx), fun k hk => absurd hk (Nat.not_lt_zero _), fun x hx q => (by unfold zw_s at q; rw [g1 x hx] at q; exact absurd q (by decide)), fun x hx q => (by unfold zw_s at q; rw [g1 x (by omega)] at q; exact absurd q (by decide))⟩
      · intro fu i N hi ⟨n1, n2, n3, n4, n5⟩ k
        have hS2 : zt_S N o P := h1.keepA n1 (fun a h => by unfold zt_A; omega)
        have hq := zp_way_lt hV hbl hi
        show zh_H (lb_M_reachesStart_48 _ 52 (nI b) (nI (zp_bk P d)) (nI (zp_t P d)) (lf_M_reachesStart_48 _ 52 (nI b) (nI (zp_bk P d)) (nI (zp_t P d)) fu) (nI i) N) _
        unfold lb_M_reachesStart_48
        rw [zt_ways hS2 hbl, Option.bind_some, if_neg (nI_ge hi (by omega)), zt_way hS2 hbl hi, Option.bind_some]
        obtain ⟨N', eN, ⟨m1, m2, m3, m4⟩, m5, m6⟩ := zw_walks (vo := some (zp_t P d)) (bo := none) (fun u hu => by cases hu; exact hv) (fun v hv => by cases hv) 13 N _ hS2 n2 hq (by have := fb_ct_le (fun x => decide (mm_I N 55 x = 0)) 12; unfold zw_c; omega)
        rw [show (-1 : Int32) = zo_N none from rfl, show nI (zp_t P d) = zo_N (some (zp_t P d)) from rfl, eN, Option.bind_some, Option.bind_some, nI_1]
        have hway : zp_ed P (zp_bk P d) (zp_way P (zp_bk P d) i) = true := (zp_ed_way hV).mpr ⟨hbl, i, hi, rfl⟩
        refine k _ ⟨zf_tr n1 m1, m2, fun j hj => ?_, fun x hx q => ?_, fun x hx q y hy => ?_⟩
        · rcases Nat.lt_or_ge j i with c2 | c2
          · exact m3 _ (by have := zp_way_lt hV hbl (show j < zp_w P (zp_bk P d) by omega); omega) (n3 j c2)
          · rw [show j = i by omega]; exact m5 (by simp)
        · rcases m6 x hx q with q | ⟨_, q⟩
          · exact n4 x hx q
          · exact zs_RP.mpr ⟨_, hway, q⟩
        · by_cases c2 : zw_s N x
          · exact m3 y (by have := (zp_ed_lt hV hy.2.1).2; omega) (n5 x hx c2 y hy)
          · exact m4 x hx q c2 y hy
      · intro fu N ⟨n1, n2, n3, n4, n5⟩
        have hS2 : zt_S N o P := h1.keepA n1 (fun a h => by unfold zt_A; omega)
        have e52' : (mm_k N 52).1 = 11 := by rw [hS2.1.1]
        show zh_H (lb_M_reachesStart_48 _ 52 (nI b) (nI (zp_bk P d)) (nI (zp_t P d)) (lf_M_reachesStart_48 _ 52 (nI b) (nI (zp_bk P d)) (nI (zp_t P d)) fu) (nI (zp_w P (zp_bk P d))) N) _
        unfold lb_M_reachesStart_48
        obtain ⟨c2, ec, hc⟩ := zt_seen hS2.1 n2 (show b < 12 by omega)
        rw [zt_ways hS2 hbl, Option.bind_some, if_pos (nI_le (Nat.le_refl _) (by omega))]
        dsimp only
        rw [zg_R e52', Option.bind_some, hS2.1.2.1.2.2.1, ec, Option.bind_some, zb_Zok, Option.bind_some]
        refine zh_some ⟨c2, N, rfl, zf_tr (zt_A55 f1) (zt_A55 n1), hc.trans ⟨fun q => ⟨_, hdf, hnw, n4 b (by omega) q⟩, ?_⟩⟩
        rintro ⟨v, e, _, q⟩
        rw [hdf] at e
        cases e
        have : zw_s N b ∧ b < zp_nb P := by
          refine zs_ind (S := fun x => zw_s N x ∧ x < zp_nb P) (fun y hy => ?_) (fun y z _ hy hz => ⟨n5 y hy.2 hy.1 z hz, (zp_ed_lt hV hz.2.1).2⟩) q
          obtain ⟨_, k, hk, e2⟩ := (zp_ed_way hV).mp hy
          rw [e2]
          exact ⟨n3 k hk, zp_way_lt hV hbl hk⟩
        exact this.1
end ZQ
