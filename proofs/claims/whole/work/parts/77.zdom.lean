/-! ===== the class: distances, dominators, loops ===== -/
def zp_nr (P : zp_T) : Nat → Nat → Bool
  | 0, b => decide (b = 0)
  | n + 1, b => zp_nr P n b || decide (0 < fb_ct (fun a => zp_nr P n a && zp_ed P a b) 12)
theorem zp_nr_succ {P : zp_T} {n b : Nat} : zp_nr P (n + 1) b = true ↔ zp_nr P n b = true ∨ ∃ a, a < 12 ∧ zp_nr P n a = true ∧ zp_ed P a b = true := by
  show (zp_nr P n b || decide (0 < fb_ct (fun a => zp_nr P n a && zp_ed P a b) 12)) = true ↔ _
  rw [Bool.or_eq_true, decide_eq_true_eq, fb_ct_pos]
  simp only [Bool.and_eq_true]
theorem zp_nr_up {P : zp_T} {n b : Nat} (h : zp_nr P n b = true) : zp_nr P (n + 1) b = true := zp_nr_succ.mpr (Or.inl h)
theorem zp_nr_le {P : zp_T} {n b : Nat} (h : zp_nr P n b = true) : ∀ k, zp_nr P (n + k) b = true
  | 0 => h
  | k + 1 => zp_nr_up (zp_nr_le h k)
theorem zp_nr_lt {P : zp_T} (hV : zp_V P) : ∀ {n b : Nat}, zp_nr P n b = true → b < zp_nb P
  | 0, b, h => by
    have : b = 0 := by simpa [zp_nr] using h
    rw [this]; exact hV.1
  | n + 1, b, h => by
    rcases zp_nr_succ.mp h with h | ⟨a, _, _, h⟩
    · exact zp_nr_lt hV h
    · exact (zp_ed_lt hV h).2
theorem zp_nr_still {P : zp_T} (hV : zp_V P) {b : Nat} (h : zp_nr P 12 b = true) : zp_nr P 11 b = true := by
  have hb := zp_nr_lt hV h
  have := hV.2.1
  rw [← zg_still (zp_nr P) (x0 := 0) (by omega) (by simp [zp_nr]) (fun n x hx => zp_nr_up hx) (fun n hn x hx => ?_) b (by omega)]
  · exact h
  · have e : ∀ y, (decide (0 < fb_ct (fun a => zp_nr P (n + 1) a && zp_ed P a y) 12)) = decide (0 < fb_ct (fun a => zp_nr P n a && zp_ed P a y) 12) := by
      intro y
      rw [fb_ct_cong (q := fun a => zp_nr P n a && zp_ed P a y) (fun k hk => by rw [hn k hk])]
    show (zp_nr P (n + 1) x || decide (0 < fb_ct (fun a => zp_nr P (n + 1) a && zp_ed P a x) 12)) = (zp_nr P n x || decide (0 < fb_ct (fun a => zp_nr P n a && zp_ed P a x) 12))
    rw [e, hn x hx]
def zp_RB (P : zp_T) (b : Nat) : Prop := zs_R (fun x => x = 0) (fun a b => zp_ed P a b = true) b
theorem zp_RB_nr {P : zp_T} (hV : zp_V P) {b : Nat} : zp_RB P b ↔ zp_nr P 11 b = true := by
  have hnb := hV.2.1
  constructor
  · refine fun h => zs_ind (S := fun b => zp_nr P 11 b = true) (fun x hx => ?_) (fun a b _ ha hb => ?_) h
    · rw [hx]
      exact zp_nr_le (n := 0) (by simp [zp_nr]) 11
    · exact zp_nr_still hV (zp_nr_succ.mpr (Or.inr ⟨a, by have := (zp_ed_lt hV hb).1; omega, ha, hb⟩))
  · have : ∀ n b, zp_nr P n b = true → zp_RB P b := by
      intro n
      induction n with
      | zero => intro b h; exact zs_in (by simpa [zp_nr] using h)
      | succ n ih =>
        intro b h
        rcases zp_nr_succ.mp h with h | ⟨a, _, h1, h2⟩
        · exact ih b h
        · exact zs_go (ih a h1) h2
    exact this 11 b
theorem zp_RB_lt {P : zp_T} (hV : zp_V P) {b : Nat} (h : zp_RB P b) : b < zp_nb P := zp_nr_lt hV ((zp_RB_nr hV).mp h)
theorem zp_RB_0 (P : zp_T) : zp_RB P 0 := zs_in rfl
theorem fa_first_eq {p : Nat → Bool} {n d : Nat} (hd : d < n) (h : p d = true) (hn : ∀ e, e < d → p e = false) : fa_first p n = d := by
  rcases Nat.lt_trichotomy (fa_first p n) d with q | q | q
  · have h1 := fa_first_yes p n (by omega)
    rw [hn _ q] at h1; cases h1
  · exact q
  · have h1 := fa_first_no p n d q
    rw [h] at h1; cases h1
def zp_dist (P : zp_T) (b : Nat) : Nat := fa_first (fun n => zp_nr P n b) 12
def zg_Dn (P : zp_T) (n : Nat) (N : mm_T) : Prop := (∀ x, x < 32 → bt (mm_I N 18 1) x = zp_nr P n x) ∧ ∀ b, b < 12 → mm_I N 21 b = if zp_nr P n b = true then nI (zp_dist P b) else -1
theorem zg_measure {M : mm_T} {P : zp_T} (hG : zk_G M) (hV : zp_V P) (hE : ∀ a, a < 12 → ∀ c, c < 32 → bt (mm_I M 19 a) c = zp_ed P a c) : ∃ M', ff_G_measureDistances 18 M = some M' ∧ zf_F M M' (fun x => x = 18 ∨ x = 21) ∧ mm_I M' 18 0 = mm_I M 18 0 ∧ zg_Dn P 11 M' := by
  have hnb := hV.2.1
  have e18 : (mm_k M 18).1 = 2 := by rw [hG.1]
  unfold ff_G_measureDistances
  rw [zq_gd e18, zg_R e18, Option.bind_some, hG.2.1.2.2.1]
  obtain ⟨M1, e1, f1, -, r1⟩ := zf_fillI hG.2.2.2.2.1 (by omega) (-1)
  rw [e1, Option.bind_some]
  have hG1 := hG.keep f1
  have e18' : (mm_k M1 18).1 = 2 := by rw [hG1.1]
  rw [zg_R e18', Option.bind_some, hG1.2.1.2.2.1, show (0 : Int32) = nI 0 from rfl, zd_put hG1.2.2.2.2.1 (by omega) (by omega), Option.bind_some, zp_I (M := mm_sI M1 21 0 (nI 0)) (show (mm_k (mm_sI M1 21 0 (nI 0)) 18).1 = 2 from e18'), Option.bind_some]
  have f3 : zf_F M (mm_sI (mm_sI M1 21 0 (nI 0)) 18 1 1) (fun x => x = 18 ∨ x = 21) := zf_tr (zf_mono f1 (fun a h => Or.inr h)) (zf_tr (zf_I (Or.inr rfl) _ _) (zf_I (Or.inl rfl) _ _))
  refine zh_up (F := fun fu i (s : Int32 × mm_T) => lf_G_measureDistances_26 18 fu s.1 i s.2) (Q := fun M' => zf_F M M' (fun x => x = 18 ∨ x = 21) ∧ mm_I M' 18 0 = mm_I M 18 0 ∧ zg_Dn P 11 M') 12 (fun d s => 1 ≤ d ∧ zf_F M s.2 (fun x => x = 18 ∨ x = 21) ∧ mm_I s.2 18 0 = mm_I M 18 0 ∧ zg_Dn P (d - 1) s.2 ∧ ∀ x, x < 32 → (bt s.1 x = true ↔ (zp_nr P (d - 1) x = true ∧ (2 ≤ d → zp_nr P (d - 2) x = false)))) ?_ ?_ fu_L 1 (1, mm_sI (mm_sI M1 21 0 (nI 0)) 18 1 1) (by omega) (by rw [zs_fuel]; omega) ⟨Nat.le_refl _, f3, ?_, ⟨fun x hx => ?_, fun b hb => ?_⟩, fun x hx => ?_⟩
  · intro fu d s hd ⟨h1, h2, h3, ⟨h4, h5⟩, h6⟩ k
    obtain ⟨q1, N⟩ := s
    simp only at h2 h3 h4 h5 h6
    have hG' := hG.keep h2
    have e18 : (mm_k N 18).1 = 2 := by rw [hG'.1]
    show zh_H (lb_G_measureDistances_26 18 (lf_G_measureDistances_26 18 fu) q1 (nI d) N) _
    unfold lb_G_measureDistances_26
    rw [if_neg (show ¬ (12 : Int32) ≤ nI d from nI_ge (b := 12) hd (by omega)), zg_R e18, Option.bind_some, hG'.2.1.1]
    obtain ⟨u, eu, hu⟩ := zg_union hG'.2.2.1 q1
    rw [eu, Option.bind_some]
    simp only [zg_I e18, Option.bind_some, zp_I e18, nI_1]
    generalize hx6 : u &&& (mm_I N 18 1 ^^^ -1) = x6
    have hnew : ∀ x, x < 32 → (bt x6 x = true ↔ (zp_nr P d x = true ∧ zp_nr P (d - 1) x = false)) := by
      intro x hx
      rw [← hx6, b_and, zb_not _ hx, h4 x hx, Bool.and_eq_true, hu x hx, Bool.not_eq_true']
      refine and_congr_left (fun hno => ?_)
      have e : d = (d - 1) + 1 := by omega
      constructor
      · rintro ⟨a, a1, a2, a3⟩
        rw [zf_i h2 (by omega), hE a a1 x hx] at a3
        rw [e]
        exact zp_nr_succ.mpr (Or.inr ⟨a, a1, ((h6 a (by omega)).mp a2).1, a3⟩)
      · intro hy
        rw [e] at hy
        rcases zp_nr_succ.mp hy with hy | ⟨a, a1, a2, a3⟩
        · rw [hno] at hy; cases hy
        · refine ⟨a, a1, (h6 a (by omega)).mpr ⟨a2, fun h2d => ?_⟩, by rw [zf_i h2 (by omega), hE a a1 x hx]; exact a3⟩
          cases e3 : zp_nr P (d - 2) a with
          | false => rfl
          | true =>
            have := zp_nr_succ.mpr (Or.inr ⟨a, a1, e3, a3⟩)
            rw [show d - 2 + 1 = d - 1 by omega, hno] at this
            cases this
    have hor : ∀ x, x < 32 → bt (mm_I N 18 1 ||| x6) x = zp_nr P d x := by
      intro x hx
      rw [b_or, h4 x hx]
      have e : d = (d - 1) + 1 := by omega
      have up : zp_nr P (d - 1) x = true → zp_nr P d x = true := fun h => by rw [e]; exact zp_nr_up h
      cases e1 : zp_nr P (d - 1) x with
      | true => rw [up e1]; rfl
      | false =>
        cases e2 : zp_nr P d x with
        | true => rw [(hnew x hx).mpr ⟨e2, e1⟩]; rfl
        | false =>
          cases e3 : bt x6 x with
          | false => rfl
          | true => rw [((hnew x hx).mp e3).1] at e2; cases e2
    refine zh_up (F := fun fu i N => lf_G_measureDistances_60 _ 18 x6 (nI d) fu i N) 12 (fun i N' => zf_F M N' (fun x => x = 18 ∨ x = 21) ∧ mm_I N' 18 0 = mm_I M 18 0 ∧ (∀ x, x < 32 → bt (mm_I N' 18 1) x = zp_nr P d x) ∧ ∀ b, b < 12 → mm_I N' 21 b = if (b < i ∧ zp_nr P d b = true) ∨ zp_nr P (d - 1) b = true then nI (zp_dist P b) else -1) ?_ ?_ fu_L 0 _ (Nat.zero_le _) (by rw [zs_fuel]; omega) ⟨zf_tr h2 (zf_I (Or.inl rfl) _ _), by rw [zm_II, if_neg (by omega)]; exact h3, fun x hx => by rw [zm_II, if_pos ⟨rfl, rfl⟩]; exact hor x hx, fun b hb => by rw [zm_II, if_neg (by omega), h5 b hb]; simp⟩
    · intro fu' i N' hi ⟨a1, a2, a3, a4⟩ k'
      have hG2 := hG.keep a1
      have e18 : (mm_k N' 18).1 = 2 := by rw [hG2.1]
      show zh_H (lb_G_measureDistances_60 _ 18 x6 (nI d) (lf_G_measureDistances_60 _ 18 x6 (nI d) fu') (nI i) N') _
      unfold lb_G_measureDistances_60
      rw [if_neg (show ¬ (12 : Int32) ≤ nI i from nI_ge (b := 12) hi (by omega)), zb_hasBit (by omega), Option.bind_some]
      simp only [zq_jp, zb_0, Option.bind_some, nI_1, zg_R e18, hG2.2.1.2.2.1, zd_put hG2.2.2.2.2.1 hi (by omega)]
      cases e : bt x6 i with
      | false =>
        rw [if_pos rfl]
        refine k' _ ⟨a1, a2, a3, fun b hb => ?_⟩
        rw [a4 b hb]
        by_cases c : b = i
        · subst c
          have hn : ¬ (zp_nr P d b = true ∧ zp_nr P (d - 1) b = false) := fun q => by rw [(hnew b (by omega)).mpr q] at e; cases e
          cases e1 : zp_nr P (d - 1) b with
          | true => simp
          | false =>
            have : zp_nr P d b = false := by
              cases e2 : zp_nr P d b with
              | false => rfl
              | true => exact absurd ⟨e2, e1⟩ hn
            simp [this]
        · simp only [show (b < i + 1) ↔ (b < i) by omega]
      | true =>
        rw [if_neg (by simp)]
        have hnw := (hnew i (by omega)).mp e
        refine k' _ ⟨zf_tr a1 (zf_I (Or.inr rfl) _ _), by rw [zm_II, if_neg (by omega)]; exact a2, fun x hx => by rw [zm_II, if_neg (by omega)]; exact a3 x hx, fun b hb => ?_⟩
        rw [zm_II]
        by_cases c : b = i
        · subst c
          rw [if_pos ⟨rfl, rfl⟩, if_pos (Or.inl ⟨by omega, hnw.1⟩)]
          have : zp_dist P b = d := fa_first_eq hd hnw.1 (fun e he => by
            cases e4 : zp_nr P e b with
            | false => rfl
            | true =>
              have := zp_nr_le e4 (d - 1 - e)
              rw [show e + (d - 1 - e) = d - 1 by omega, hnw.2] at this
              cases this)
          rw [this]
        · rw [if_neg (fun q => c q.2), a4 b hb]
          simp only [show (b < i + 1) ↔ (b < i) by omega]
    · intro fu' N' ⟨a1, a2, a3, a4⟩
      show zh_H (lb_G_measureDistances_60 _ 18 x6 (nI d) (lf_G_measureDistances_60 _ 18 x6 (nI d) fu') (nI 12) N') _
      unfold lb_G_measureDistances_60
      rw [if_pos (show (12 : Int32) ≤ nI 12 from nI_le (a := 12) (Nat.le_refl _) (by omega))]
      refine k (x6, N') ⟨by omega, a1, a2, ⟨fun x hx => a3 x hx, fun b hb => ?_⟩, fun x hx => ?_⟩
      · rw [a4 b hb]
        show _ = if zp_nr P d b = true then _ else _
        cases e1 : zp_nr P d b with
        | true => simp [hb]
        | false =>
          have : zp_nr P (d - 1) b = false := by
            cases e2 : zp_nr P (d - 1) b with
            | false => rfl
            | true =>
              have := zp_nr_up e2
              rw [show d - 1 + 1 = d by omega, e1] at this
              cases this
          simp [this]
      · show bt x6 x = true ↔ (zp_nr P d x = true ∧ (2 ≤ d + 1 → zp_nr P (d + 1 - 2) x = false))
        rw [hnew x hx, show d + 1 - 2 = d - 1 by omega]
        exact ⟨fun q => ⟨q.1, fun _ => q.2⟩, fun q => ⟨q.1, q.2 (by omega)⟩⟩
  · intro fu s ⟨h1, h2, h3, h4, h6⟩
    obtain ⟨q1, N⟩ := s
    show zh_H (lb_G_measureDistances_26 18 (lf_G_measureDistances_26 18 fu) q1 (nI 12) N) _
    unfold lb_G_measureDistances_26
    rw [if_pos (show (12 : Int32) ≤ nI 12 from nI_le (a := 12) (Nat.le_refl _) (by omega))]
    exact zh_some ⟨h2, h3, h4⟩
  · rw [zm_II, if_neg (by omega), zm_II, if_neg (by omega), zf_i f1 (by omega)]
  · rw [zm_II, if_pos ⟨rfl, rfl⟩, zb_1]
    rfl
  · rw [zm_II, if_neg (by omega), zm_II, r1 b, if_pos hb]
    show _ = if decide (b = 0) = true then _ else _
    by_cases c : b = 0
    · subst c
      rw [if_pos ⟨rfl, rfl⟩, if_pos (by simp)]
      have : zp_dist P 0 = 0 := fa_first_eq (by omega) (by simp [zp_nr]) (fun e he => absurd he (Nat.not_lt_zero _))
      rw [this]
    · rw [if_neg (fun q => c q.2), if_neg (by simp [c])]
  · show bt 1 x = true ↔ (decide (x = 0) = true ∧ (2 ≤ 1 → _))
    rw [zb_1]
    simp
