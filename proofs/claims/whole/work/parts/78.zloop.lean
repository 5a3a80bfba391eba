/-! ===== the class: dominators and loops ===== -/
def zp_AV (P : zp_T) (a b : Nat) : Prop := zs_R (fun x => x = 0 ∧ a ≠ 0) (fun x y => zp_ed P x y = true ∧ y ≠ a) b
/-- a dominates b -/
def zp_DM (P : zp_T) (a b : Nat) : Prop := zp_RB P b ∧ ¬ zp_AV P a b
theorem zp_AV_ne {P : zp_T} {a b : Nat} (h : zp_AV P a b) : b ≠ a := by
  rcases zs_inv h with ⟨h1, h2⟩ | ⟨x, _, _, h2⟩
  · rw [h1]; exact Ne.symm h2
  · exact h2
theorem zp_AV_RB {P : zp_T} {a b : Nat} (h : zp_AV P a b) : zp_RB P b := zs_mono (fun p hp => zs_in hp.1) (fun p q hp e => zs_go hp e.1) h
theorem zp_DM_RB {P : zp_T} {a b : Nat} (h : zp_DM P a b) : zp_RB P a := by
  refine Classical.byContradiction fun hn => h.2 ?_
  have : ∀ x, zp_RB P x → zp_AV P a x := fun x hx => zs_ind (S := fun x => zp_AV P a x) (fun x hx => zs_in ⟨hx, fun e => hn (e ▸ zp_RB_0 P)⟩) (fun x y hx ih e => zs_go ih ⟨e, fun q => hn (q ▸ zs_go hx e)⟩) hx
  exact this b h.1
theorem zp_DM_self {P : zp_T} {b : Nat} (h : zp_RB P b) : zp_DM P b b := ⟨h, fun q => zp_AV_ne q rfl⟩
theorem zg_isReached {N : mm_T} (hG : zk_G N) {b : Nat} (hb : b < 32) : ff_G_isReached 18 (nI b) N = some (zb_B (bt (mm_I N 18 1) b)) := by
  have e18 : (mm_k N 18).1 = 2 := by rw [hG.1]
  unfold ff_G_isReached
  rw [zq_gd e18, zg_I e18, Option.bind_some, zb_hasBit hb, Option.bind_some, zb_Zok, Option.bind_some]
/-- what stands when the dominators are sought -/
def zg_Pre (P : zp_T) (N : mm_T) : Prop := (∀ c, c < 12 → ∀ a, a < 32 → bt (mm_I N 20 c) a = zp_ed P a c) ∧ ∀ x, x < 32 → (bt (mm_I N 18 1) x = true ↔ zp_RB P x)
def zg_mu (N : mm_T) : Nat := fb_ct (fun x => bt (mm_I N 22 (x / 32)) (x % 32)) 384
def zg_Inv (M : mm_T) (P : zp_T) (N : mm_T) : Prop := zf_F M N (fun x => x = 22) ∧ (∀ b, b < 12 → ∀ a, a < 32 → zp_DM P a b → bt (mm_I N 22 b) a = true) ∧ (∀ b, b < 12 → ¬ zp_RB P b → mm_I N 22 b = 0) ∧ ∀ a, a < 32 → bt (mm_I N 22 0) a = true → a = 0
def zg_St (P : zp_T) (b : Nat) (N : mm_T) : Prop := zp_RB P b → ∀ p, p < 12 → zp_RB P p → zp_ed P p b = true → ∀ a, a < 32 → bt (mm_I N 22 b) a = true → bt (mm_I N 22 p) a = true ∨ a = b
theorem zg_narrow {M N : mm_T} {P : zp_T} (hG : zk_G M) (hV : zp_V P) (hp : zg_Pre P M) (hI : zg_Inv M P N) {b : Nat} (hb : b < 12) (hr : zp_RB P b) : ∃ (c : Bool) (N' : mm_T), ff_G_narrowDominators 18 (nI b) N = some (zb_B c, N') ∧ zg_Inv M P N' ∧ (c = true → zg_mu N' < zg_mu N) ∧ (c = false → N' = N ∧ zg_St P b N) := by
  have hG1 := hG.keep hI.1
  have e18 : (mm_k N 18).1 = 2 := by rw [hG1.1]
  have h20 : ∀ x, mm_I N 20 x = mm_I M 20 x := fun x => zf_i hI.1 (by omega) x
  have h18 : ∀ x, mm_I N 18 x = mm_I M 18 x := fun x => zf_i hI.1 (by omega) x
  suffices goal : zh_H (ff_G_narrowDominators 18 (nI b) N) (fun y => ∃ (c : Bool) (N' : mm_T), y = (zb_B c, N') ∧ zg_Inv M P N' ∧ (c = true → zg_mu N' < zg_mu N) ∧ (c = false → N' = N ∧ zg_St P b N)) by
    obtain ⟨y, e, c, N', rfl, h⟩ := goal
    exact ⟨c, N', e, h⟩
  unfold ff_G_narrowDominators
  rw [zq_gd e18]
  simp only [zg_R e18, Option.bind_some, hG1.2.1.2.2.2.1, hG1.2.1.2.1, zd_at hG1.2.2.2.2.2.1 hb (by omega), zd_at hG1.2.2.2.1 hb (by omega), zg_I e18, zd_put hG1.2.2.2.2.2.1 hb (by omega)]
  generalize hx6 : mm_I N 20 b &&& mm_I N 18 1 = x6
  have hx : ∀ p, p < 32 → (bt x6 p = true ↔ (zp_ed P p b = true ∧ zp_RB P p)) := by
    intro p hp2
    rw [← hx6, b_and, h20, h18, hp.1 b hb p hp2, Bool.and_eq_true, hp.2 p hp2]
  refine zh_up (F := fun fu i (x : Int32) => lf_G_narrowDominators_29 _ 18 (nI b) (mm_I N 22 b) x6 N fu x i) 12 (fun i x => ∀ a, a < 32 → (bt x a = true ↔ (bt (mm_I N 22 b) a = true ∧ ∀ p, p < i → zp_ed P p b = true → zp_RB P p → bt (mm_I N 22 p) a = true ∨ a = b))) ?_ ?_ fu_L 0 (mm_I N 22 b) (Nat.zero_le _) (by rw [zs_fuel]; omega) (fun a ha => ⟨fun h => ⟨h, fun p hp => absurd hp (Nat.not_lt_zero _)⟩, fun h => h.1⟩)
  · intro fu i x hi hxx k
    show zh_H (lb_G_narrowDominators_29 _ 18 (nI b) (mm_I N 22 b) x6 N (lf_G_narrowDominators_29 _ 18 (nI b) (mm_I N 22 b) x6 N fu) x (nI i)) _
    unfold lb_G_narrowDominators_29
    rw [if_neg (show ¬ (12 : Int32) ≤ nI i from nI_ge (b := 12) hi (by omega)), zb_hasBit (by omega), Option.bind_some]
    simp only [zq_jp, zb_0, Option.bind_some, nI_1, zg_R e18, hG1.2.1.2.2.2.1, zd_at hG1.2.2.2.2.2.1 hi (by omega)]
    cases e : bt x6 i with
    | false =>
      rw [if_pos rfl]
      refine k _ (fun a ha => ?_)
      rw [hxx a ha]
      refine and_congr_right (fun _ => ⟨fun h p hp h1 h2 => ?_, fun h p hp => h p (by omega)⟩)
      rcases Nat.lt_or_ge p i with c | c
      · exact h p c h1 h2
      · exfalso
        rw [show p = i by omega] at h1 h2
        rw [(hx i (by omega)).mpr ⟨h1, h2⟩] at e
        cases e
    | true =>
      rw [if_neg (by simp)]
      have hxi := (hx i (by omega)).mp e
      refine k _ (fun a ha => ?_)
      rw [b_and, b_or, Bool.and_eq_true, Bool.or_eq_true, hxx a ha, zb_one b (by omega), decide_eq_true_eq]
      constructor
      · rintro ⟨⟨h1, h2⟩, h3⟩
        refine ⟨h1, fun p hp g1 g2 => ?_⟩
        rcases Nat.lt_or_ge p i with c | c
        · exact h2 p c g1 g2
        · rw [show p = i by omega]; exact h3
      · rintro ⟨h1, h2⟩
        exact ⟨⟨h1, fun p hp => h2 p (by omega)⟩, h2 i (by omega) hxi.1 hxi.2⟩
  · intro fu x hxx
    show zh_H (lb_G_narrowDominators_29 _ 18 (nI b) (mm_I N 22 b) x6 N (lf_G_narrowDominators_29 _ 18 (nI b) (mm_I N 22 b) x6 N fu) x (nI 12)) _
    unfold lb_G_narrowDominators_29
    rw [if_pos (show (12 : Int32) ≤ nI 12 from nI_le (a := 12) (Nat.le_refl _) (by omega))]
    dsimp only
    by_cases c : x = mm_I N 22 b
    · rw [if_pos c, c, zm_same]
      refine zh_some ⟨false, N, rfl, hI, (by intro h; cases h), fun _ => ⟨rfl, fun _ p hp h1 h2 a ha h3 => ?_⟩⟩
      have := ((hxx a ha).mp (by rw [c]; exact h3)).2 p hp h2 h1
      exact this
    · rw [if_neg c]
      refine zh_some ⟨true, _, rfl, ⟨zf_tr hI.1 (zf_I (A := fun x => x = 22) rfl _ _), fun b' hb' a ha hd => ?_, fun b' hb' hn => ?_, fun a ha h => ?_⟩, fun _ => ?_, by intro h; cases h⟩
      · rw [zm_II]
        by_cases e : b' = b
        · subst e
          rw [if_pos ⟨rfl, rfl⟩, hxx a ha]
          refine ⟨hI.2.1 b' hb' a ha hd, fun p hp h1 h2 => ?_⟩
          by_cases e2 : a = b'
          · exact Or.inr e2
          · refine Or.inl (hI.2.1 p (by omega) a ha ⟨h2, fun q => hd.2 (zs_go q ⟨h1, Ne.symm e2⟩)⟩)
        · rw [if_neg (fun q => e q.2)]
          exact hI.2.1 b' hb' a ha hd
      · rw [zm_II]
        by_cases e : b' = b
        · subst e; exact absurd hr hn
        · rw [if_neg (fun q => e q.2)]
          exact hI.2.2.1 b' hb' hn
      · rw [zm_II] at h
        by_cases e : 0 = b
        · rw [if_pos ⟨rfl, e⟩] at h
          have := ((hxx a ha).mp h).1
          rw [← e] at this
          exact hI.2.2.2 a ha this
        · rw [if_neg (fun q => e q.2)] at h
          exact hI.2.2.2 a ha h
      · have : ∃ v, v < 32 ∧ ¬ bt x v = bt (mm_I N 22 b) v := by
          refine Classical.byContradiction fun hn => c (b_ext fun i hi => ?_)
          exact Classical.byContradiction fun h3 => hn ⟨i, hi, h3⟩
        obtain ⟨v, hv, h3⟩ := this
        have e1 : (b * 32 + v) / 32 = b := by omega
        have e2 : (b * 32 + v) % 32 = v := by omega
        have h4 : bt x v = false := by
          cases e : bt x v with
          | false => rfl
          | true => rw [e, ((hxx v hv).mp e).1] at h3; exact absurd rfl h3
        have h5 : bt (mm_I N 22 b) v = true := by
          cases e : bt (mm_I N 22 b) v with
          | true => rfl
          | false => rw [e, h4] at h3; exact absurd rfl h3
        refine zs_ctlt (x := b * 32 + v) (fun j hj hj2 => ?_) (by omega) (by rw [e1, e2, zm_II, if_pos ⟨rfl, rfl⟩]; exact h4) (by rw [e1, e2]; exact h5)
        rw [zm_II] at hj2
        split at hj2
        · rename_i q
          rw [q.2]
          exact ((hxx _ (by omega)).mp hj2).1
        · exact hj2
theorem zg_dominators {M : mm_T} {P : zp_T} (hG : zk_G M) (hV : zp_V P) (hp : zg_Pre P M) : ∃ M', ff_G_findDominators 18 M = some M' ∧ zf_F M M' (fun x => x = 22) ∧ ∀ b, b < 12 → ∀ a, a < 32 → (bt (mm_I M' 22 b) a = true ↔ zp_DM P a b) := by
  have hnb := hV.2.1
  have e18 : (mm_k M 18).1 = 2 := by rw [hG.1]
  unfold ff_G_findDominators
  rw [zq_gd e18]
  have keep : ∀ {N}, zf_F M N (fun x => x = 22) → zk_G N := fun {N} h => hG.keep h
  refine zh_up (F := fun fu i N => lf_G_findDominators_2 _ 18 fu i N) (Q := fun M' => zf_F M M' (fun x => x = 22) ∧ ∀ b, b < 12 → ∀ a, a < 32 → (bt (mm_I M' 22 b) a = true ↔ zp_DM P a b)) 12 (fun i N => zf_F M N (fun x => x = 22) ∧ ∀ b, b < i → mm_I N 22 b = if bt (mm_I M 18 1) b = true then mm_I M 18 1 else 0) ?_ ?_ fu_L 0 M (Nat.zero_le _) (by rw [zs_fuel]; omega) ⟨zf_rfl _ _, fun b hb => absurd hb (Nat.not_lt_zero _)⟩
  · intro fu i N hi ⟨h1, h2⟩ k
    have hG' := keep h1
    have e18 : (mm_k N 18).1 = 2 := by rw [hG'.1]
    have h18 : mm_I N 18 1 = mm_I M 18 1 := zf_i h1 (by omega) 1
    show zh_H (lb_G_findDominators_2 _ 18 (lf_G_findDominators_2 _ 18 fu) (nI i) N) _
    unfold lb_G_findDominators_2
    rw [if_neg (show ¬ (12 : Int32) ≤ nI i from nI_ge (b := 12) hi (by omega))]
    simp only [zg_R e18, Option.bind_some, hG'.2.1.2.2.2.1, zg_isReached hG' (show i < 32 by omega), zq_jp, zb_0, zg_I e18, zd_put hG'.2.2.2.2.2.1 hi (by omega), nI_1, h18]
    have fin : ∀ v, v = (if bt (mm_I M 18 1) i = true then mm_I M 18 1 else 0) → ∀ b, b < i + 1 → mm_I (mm_sI N 22 i v) 22 b = if bt (mm_I M 18 1) b = true then mm_I M 18 1 else 0 := by
      intro v hv b hb
      rw [zm_II]
      by_cases c : b = i
      · rw [if_pos ⟨rfl, c⟩, hv, c]
      · rw [if_neg (fun q => c q.2)]
        exact h2 b (by omega)
    cases e : bt (mm_I M 18 1) i with
    | false =>
      rw [if_pos rfl]
      exact k _ ⟨zf_tr h1 (zf_I (A := fun x => x = 22) rfl _ _), fin 0 (by rw [e]; rfl)⟩
    | true =>
      rw [if_neg (by simp)]
      exact k _ ⟨zf_tr h1 (zf_I (A := fun x => x = 22) rfl _ _), fin _ (by rw [e]; rfl)⟩
  · intro fu N ⟨h1, h2⟩
    have hG' := keep h1
    have e18 : (mm_k N 18).1 = 2 := by rw [hG'.1]
    show zh_H (lb_G_findDominators_2 _ 18 (lf_G_findDominators_2 _ 18 fu) (nI 12) N) _
    unfold lb_G_findDominators_2
    rw [if_pos (show (12 : Int32) ≤ nI 12 from nI_le (a := 12) (Nat.le_refl _) (by omega))]
    dsimp only
    rw [zg_R e18, Option.bind_some, hG'.2.1.2.2.2.1, show (0 : Int32) = nI 0 from rfl, zd_put hG'.2.2.2.2.2.1 (show 0 < 12 by omega) (by omega), Option.bind_some]
    have hI0 : zg_Inv M P (mm_sI N 22 0 1) := by
      refine ⟨zf_tr h1 (zf_I (A := fun x => x = 22) rfl _ _), fun b hb a ha hd => ?_, fun b hb hn => ?_, fun a ha h => ?_⟩
      · rw [zm_II]
        by_cases c : b = 0
        · rw [if_pos ⟨rfl, c⟩, zb_1]
          have : a = 0 := Classical.byContradiction fun q => hd.2 (zs_in ⟨c, q⟩)
          simp [this]
        · rw [if_neg (fun q => c q.2), h2 b hb, if_pos ((hp.2 b (by omega)).mpr hd.1), hp.2 a ha]
          exact zp_DM_RB hd
      · rw [zm_II]
        by_cases c : b = 0
        · exact absurd (c ▸ zp_RB_0 P) hn
        · rw [if_neg (fun q => c q.2), h2 b hb, if_neg (fun q => hn ((hp.2 b (by omega)).mp q))]
      · rw [zm_II, if_pos ⟨rfl, rfl⟩, zb_1] at h
        simpa using h
    refine zs_fix (Fin := fun r cont fu q i N => lf_G_findDominators_65 cont 18 (nI r) fu q (nI i) N) (Fout := fun fu q r N => lf_G_findDominators_51 18 fu q (nI r) N) (k0 := fun N => some N) (Q := fun M' => zf_F M M' (fun x => x = 22) ∧ ∀ b, b < 12 → ∀ a, a < 32 → (bt (mm_I M' 22 b) a = true ↔ zp_DM P a b)) 12 384 (zg_Inv M P) (zg_St P) zg_mu (fun i N c N' => zg_Inv M P N' ∧ (c = true → zg_mu N' < zg_mu N) ∧ (c = false → N' = N ∧ zg_St P i N)) ?_ ?_ ?_ ?_ ?_ (by rw [zs_fuel]; omega) (by omega) ?_ fu_L 0 _ hI0 (by rw [Nat.zero_add]; exact fb_ct_le _ _) (by rw [zs_fuel]; omega)
    · intro r cont fu q i N hi hI k
      have hG' := keep hI.1
      have h18 : mm_I N 18 1 = mm_I M 18 1 := zf_i hI.1 (by omega) 1
      show zh_H (lb_G_findDominators_65 cont 18 (nI r) (lf_G_findDominators_65 cont 18 (nI r) fu) q (nI i) N) _
      unfold lb_G_findDominators_65
      rw [if_neg (show ¬ (12 : Int32) ≤ nI i from nI_ge (b := 12) hi (by omega)), zg_isReached hG' (by omega), Option.bind_some, h18]
      simp only [zq_jp, zb_0]
      cases e : bt (mm_I M 18 1) i with
      | false =>
        rw [if_pos rfl]
        simp only [Option.bind_some, nI_1]
        refine k false N ⟨hI, (by intro h; cases h), fun _ => ⟨rfl, fun hr => ?_⟩⟩
        rw [(hp.2 i (by omega)).mpr hr] at e
        cases e
      | true =>
        rw [if_neg (by simp)]
        obtain ⟨c, N', e2, a1, a2, a3⟩ := zg_narrow hG hV hp hI hi ((hp.2 i (by omega)).mp e)
        refine zh_at2 e2 ?_
        cases c with
        | true =>
          rw [if_neg (by decide)]
          simp only [Option.bind_some, nI_1]
          exact k true N' ⟨a1, a2, a3⟩
        | false =>
          rw [if_pos (by decide)]
          simp only [Option.bind_some, nI_1]
          exact k false N' ⟨a1, a2, a3⟩
    · intro r cont fu q N
      show lb_G_findDominators_65 cont 18 (nI r) (lf_G_findDominators_65 cont 18 (nI r) fu) q (nI 12) N = _
      unfold lb_G_findDominators_65
      rw [if_pos (show (12 : Int32) ≤ nI 12 from nI_le (a := 12) (Nat.le_refl _) (by omega))]
    · intro i N c N' hi hI ⟨a1, a2, a3⟩
      refine ⟨a1, a2, fun hc => ?_⟩
      obtain ⟨rfl, a4⟩ := a3 hc
      exact ⟨Nat.le_refl _, a4, fun j _ h => h⟩
    · intro fu r N
      show lb_G_findDominators_51 18 _ 0 (nI r) N = _
      unfold lb_G_findDominators_51
      rw [if_pos rfl]
    · intro fu r N hr
      show lb_G_findDominators_51 18 _ 1 (nI r) N = _
      unfold lb_G_findDominators_51
      rw [if_neg (by decide), if_neg (show ¬ (100000 : Int32) ≤ nI r from nI_ge (b := 100000) hr (by omega))]
      simp only [Option.bind_some, nI_1]
      rfl
    · intro N hI hS
      refine zh_some ⟨hI.1, fun b hb a ha => ⟨fun h => ?_, hI.2.1 b hb a ha⟩⟩
      have hr : zp_RB P b := Classical.byContradiction fun hn => by rw [hI.2.2.1 b hb hn, b_0] at h; cases h
      refine ⟨hr, fun hav => ?_⟩
      have key : ∀ x, zp_AV P a x → bt (mm_I N 22 x) a = false := by
        refine fun x hx => zs_ind (S := fun x => bt (mm_I N 22 x) a = false) (fun x hx => ?_) (fun x y hx ih e => ?_) hx
        · rw [hx.1]
          cases e : bt (mm_I N 22 0) a with
          | false => rfl
          | true => exact absurd (hI.2.2.2 a ha e) hx.2
        · have hxr := zp_AV_RB hx
          have hl := zp_ed_lt hV e.1
          cases e2 : bt (mm_I N 22 y) a with
          | false => rfl
          | true =>
            rcases hS y (by omega) (zs_go hxr e.1) x (by omega) hxr e.1 a ha e2 with q | q
            · rw [ih] at q; cases q
            · exact absurd q.symm e.2
      rw [key b hav] at h
      cases h
