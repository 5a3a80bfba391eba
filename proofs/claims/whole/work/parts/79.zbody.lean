/-! ===== the class: loops; Graph as a whole ===== -/
/-- a back edge from o to h -/
def zp_BE (P : zp_T) (o h : Nat) : Prop := zp_ed P o h = true ∧ zp_DM P h o
def zp_BD (P : zp_T) (h b : Nat) : Prop := (∃ o, zp_BE P o h) ∧ zp_RB P b ∧ (b = h ∨ ∃ o, zp_BE P o h ∧ zs_P (fun x y => zp_ed P x y = true ∧ y ≠ h) b o)
theorem zp_BE_RB {P : zp_T} {o h : Nat} (e : zp_BE P o h) : zp_RB P o ∧ zp_RB P h := ⟨e.2.1, zs_go e.2.1 e.1⟩
/-- Graph holds what is so of P -/
def zd_G (M : mm_T) (P : zp_T) : Prop := zg_Pre P M ∧ (∀ b, b < 12 → mm_I M 21 b = if zp_nr P 11 b = true then nI (zp_dist P b) else -1) ∧ (∀ b, b < 12 → ∀ a, a < 32 → (bt (mm_I M 22 b) a = true ↔ zp_DM P a b)) ∧ ∀ h, h < 12 → ∀ b, b < 32 → (bt (mm_I M 23 h) b = true ↔ zp_BD P h b)
/-- without the loops -/
def zg_Mid (M : mm_T) (P : zp_T) : Prop := zg_Pre P M ∧ (∀ b, b < 12 → mm_I M 21 b = if zp_nr P 11 b = true then nI (zp_dist P b) else -1) ∧ ∀ b, b < 12 → ∀ a, a < 32 → (bt (mm_I M 22 b) a = true ↔ zp_DM P a b)
theorem zg_Mid.keep {M M' : mm_T} {P : zp_T} (h : zg_Mid M P) (hf : zf_F M M' (fun x => x = 23)) : zg_Mid M' P := by
  obtain ⟨⟨h1, h2⟩, h3, h4⟩ := h
  refine ⟨⟨fun c hc a ha => ?_, fun x hx => ?_⟩, fun b hb => ?_, fun b hb a ha => ?_⟩
  · rw [zf_i hf (by omega)]; exact h1 c hc a ha
  · rw [zf_i hf (by omega)]; exact h2 x hx
  · rw [zf_i hf (by omega)]; exact h3 b hb
  · rw [zf_i hf (by omega)]; exact h4 b hb a ha
theorem zg_origins {N : mm_T} {P : zp_T} (hG : zk_G N) (hV : zp_V P) (hm : zg_Mid N P) {h : Nat} (hh : h < 12) : ∃ x, ff_G_origins 18 (nI h) N = some x ∧ ∀ o, o < 32 → (bt x o = true ↔ zp_BE P o h) := by
  have hnb := hV.2.1
  have e18 : (mm_k N 18).1 = 2 := by rw [hG.1]
  unfold ff_G_origins
  rw [zq_gd e18]
  refine zh_up (F := fun fu i (x : Int32) => lf_G_origins_4 18 (nI h) N fu x i) (Q := fun x => ∀ o, o < 32 → (bt x o = true ↔ zp_BE P o h)) 12 (fun i x => ∀ o, o < 32 → (bt x o = true ↔ (o < i ∧ zp_BE P o h))) ?_ ?_ fu_L 0 0 (Nat.zero_le _) (by rw [zs_fuel]; omega) (fun o ho => by rw [b_0]; simp)
  · intro fu i x hi hx k
    show zh_H (lb_G_origins_4 18 (nI h) N (lf_G_origins_4 18 (nI h) N fu) x (nI i)) _
    unfold lb_G_origins_4
    rw [if_neg (show ¬ (12 : Int32) ≤ nI i from nI_ge (b := 12) hi (by omega))]
    simp only [zg_R e18, Option.bind_some, hG.2.1.2.1, hG.2.1.2.2.2.1, zd_at hG.2.2.2.1 hh (by omega), zb_hasBit (show i < 32 by omega), zd_at hG.2.2.2.2.2.1 hi (by omega), zb_hasBit (show h < 32 by omega), zq_jp, zb_0, nI_1]
    have no : ¬ zp_BE P i h → zh_H (lf_G_origins_4 18 (nI h) N fu x (nI (i + 1))) (fun x => ∀ o, o < 32 → (bt x o = true ↔ zp_BE P o h)) := by
      intro hn
      refine k _ (fun o ho => ?_)
      rw [hx o ho]
      refine ⟨fun q => ⟨by omega, q.2⟩, fun q => ⟨?_, q.2⟩⟩
      rcases Nat.lt_or_ge o i with c | c
      · exact c
      · exact absurd (show i = o by omega) (fun e => hn (e ▸ q.2))
    cases e1 : bt (mm_I N 20 h) i with
    | false =>
      rw [if_pos rfl]
      refine no (fun q => ?_)
      rw [hm.1.1 h hh i (by omega), q.1] at e1
      cases e1
    | true =>
      rw [if_neg (by simp)]
      cases e2 : bt (mm_I N 22 i) h with
      | false =>
        rw [if_pos rfl]
        refine no (fun q => ?_)
        rw [(hm.2.2 i hi h (by omega)).mpr q.2] at e2
        cases e2
      | true =>
        rw [if_neg (by simp)]
        rw [hm.1.1 h hh i (by omega)] at e1
        refine k _ (fun o ho => ?_)
        rw [b_or, Bool.or_eq_true, hx o ho, zb_one i (by omega), decide_eq_true_eq]
        constructor
        · rintro (q | q)
          · exact ⟨by omega, q.2⟩
          · rw [q]; exact ⟨by omega, e1, (hm.2.2 i hi h (by omega)).mp e2⟩
        · rintro ⟨q1, q2⟩
          rcases Nat.lt_or_ge o i with c | c
          · exact Or.inl ⟨c, q2⟩
          · exact Or.inr (by omega)
  · intro fu x hx
    show zh_H (lb_G_origins_4 18 (nI h) N (lf_G_origins_4 18 (nI h) N fu) x (nI 12)) _
    unfold lb_G_origins_4
    rw [if_pos (show (12 : Int32) ≤ nI 12 from nI_le (a := 12) (Nat.le_refl _) (by omega))]
    refine zh_some (fun o ho => ?_)
    rw [hx o ho]
    exact ⟨fun q => q.2, fun q => ⟨by have := (zp_ed_lt hV q.1).1; omega, q⟩⟩
/-- the body of a loop after n rounds, out of a first set -/
def zg_B (P : zp_T) (R : Nat → Bool) (h : Nat) (S0 : Nat → Bool) : Nat → Nat → Bool
  | 0, x => S0 x
  | n + 1, x => zg_B P R h S0 n x || (R x && decide (0 < fb_ct (fun y => zg_B P R h S0 n y && (decide (y ≠ h) && zp_ed P x y)) 12))
theorem zg_B_succ {P : zp_T} {R : Nat → Bool} {h : Nat} {S0 : Nat → Bool} {n x : Nat} : zg_B P R h S0 (n + 1) x = true ↔ zg_B P R h S0 n x = true ∨ (R x = true ∧ ∃ y, y < 12 ∧ zg_B P R h S0 n y = true ∧ y ≠ h ∧ zp_ed P x y = true) := by
  show (zg_B P R h S0 n x || (R x && decide (0 < fb_ct (fun y => zg_B P R h S0 n y && (decide (y ≠ h) && zp_ed P x y)) 12))) = true ↔ _
  rw [Bool.or_eq_true, Bool.and_eq_true, decide_eq_true_eq, fb_ct_pos]
  simp only [Bool.and_eq_true, decide_eq_true_eq]
theorem zg_B_still {P : zp_T} {R : Nat → Bool} {h : Nat} {S0 : Nat → Bool} {x0 : Nat} (hx0 : x0 < 12) (h0 : S0 x0 = true) : ∀ x, x < 12 → zg_B P R h S0 13 x = zg_B P R h S0 12 x := by
  have step : ∀ n, (∀ x, x < 12 → zg_B P R h S0 (n + 1) x = zg_B P R h S0 n x) → ∀ x, x < 12 → zg_B P R h S0 (n + 2) x = zg_B P R h S0 (n + 1) x := by
    intro n hn x hx
    show (zg_B P R h S0 (n + 1) x || (R x && decide (0 < fb_ct (fun y => zg_B P R h S0 (n + 1) y && (decide (y ≠ h) && zp_ed P x y)) 12))) = (zg_B P R h S0 n x || (R x && decide (0 < fb_ct (fun y => zg_B P R h S0 n y && (decide (y ≠ h) && zp_ed P x y)) 12)))
    rw [hn x hx, fb_ct_cong (q := fun y => zg_B P R h S0 n y && (decide (y ≠ h) && zp_ed P x y)) (fun k hk => by rw [hn k hk])]
  have h1 := zg_still (zg_B P R h S0) hx0 h0 (fun n x hx => zg_B_succ.mpr (Or.inl hx)) step
  exact step 11 h1
theorem zg_body {N : mm_T} {P : zp_T} (hG : zk_G N) (hV : zp_V P) (hm : zg_Mid N P) {h : Nat} (hh : h < 12) : ∃ x, ff_G_findBody 18 (nI h) N = some x ∧ ∀ b, b < 32 → (bt x b = true ↔ zp_BD P h b) := by
  have hnb := hV.2.1
  have e18 : (mm_k N 18).1 = 2 := by rw [hG.1]
  obtain ⟨og, eo, ho⟩ := zg_origins hG hV hm hh
  unfold ff_G_findBody
  rw [zq_gd e18, eo, Option.bind_some]
  have big : ∀ b, b < 32 → zp_BD P h b → b < 12 := fun b _ q => by have := zp_RB_lt hV q.2.1; omega
  by_cases c : og = 0
  · rw [if_pos c]
    refine ⟨0, rfl, fun b hb => ?_⟩
    rw [b_0]
    refine ⟨fun q => (by cases q), fun q => ?_⟩
    obtain ⟨⟨o, q1⟩, _⟩ := q
    have hol : o < 32 := by have := (zp_ed_lt hV q1.1).1; omega
    have := (ho o hol).mpr q1
    rw [c, b_0] at this
    cases this
  · rw [if_neg c]
    have hex : ∃ o, o < 32 ∧ zp_BE P o h := by
      refine Classical.byContradiction fun hn => c (b_ext fun i hi => ?_)
      rw [b_0]
      cases e : bt og i with
      | false => rfl
      | true => exact absurd ⟨i, hi, (ho i hi).mp e⟩ hn
    obtain ⟨o1, ho1, hbe1⟩ := hex
    simp only [Option.bind_some]
    have hS0 : ∀ x, x < 32 → bt (og ||| io_shl 1 (nI h)) x = (bt og x || decide (x = h)) := fun x hx => by rw [b_or, zb_one h (by omega)]
    generalize hs0 : og ||| io_shl 1 (nI h) = s0 at *
    suffices goal : zh_H (lf_G_findBody_24 18 (io_shl 1 (nI h)) N fu_L s0 0) (fun x => ∀ b, b < 32 → bt x b = zg_B P (fun b => bt (mm_I N 18 1) b) h (fun b => bt s0 b) 12 b) by
      obtain ⟨x, ex, hx⟩ := goal
      refine ⟨x, ex, fun b hb => ?_⟩
      rw [hx b hb]
      have hR : ∀ b, b < 32 → (bt (mm_I N 18 1) b = true ↔ zp_RB P b) := hm.1.2
      constructor
      · intro hB
        have snd : ∀ n b, b < 32 → zg_B P (fun b => bt (mm_I N 18 1) b) h (fun b => bt s0 b) n b = true → zp_RB P b ∧ (b = h ∨ ∃ o, zp_BE P o h ∧ zs_P (fun x y => zp_ed P x y = true ∧ y ≠ h) b o) := by
          intro n
          induction n with
          | zero =>
            intro b hb q
            have q : bt s0 b = true := q
            rw [hS0 b hb, Bool.or_eq_true, decide_eq_true_eq] at q
            rcases q with q | q
            · have := (ho b hb).mp q
              exact ⟨(zp_BE_RB this).1, Or.inr ⟨b, this, zs_P0 b⟩⟩
            · rw [q]; exact ⟨(zp_BE_RB hbe1).2, Or.inl rfl⟩
          | succ n ih =>
            intro b hb q
            rcases zg_B_succ.mp q with q | ⟨q1, y, q2, q3, q4, q5⟩
            · exact ih b hb q
            · refine ⟨(hR b hb).mp q1, Or.inr ?_⟩
              rcases (ih y (by omega) q3).2 with e | ⟨o, e1, e2⟩
              · exact absurd e q4
              · exact ⟨o, e1, zs_Pcons ⟨q5, q4⟩ e2⟩
        exact ⟨⟨o1, hbe1⟩, snd 12 b hb hB⟩
      · rintro ⟨_, hr, hB⟩
        have base : ∀ x, x < 32 → bt s0 x = true → zg_B P (fun b => bt (mm_I N 18 1) b) h (fun b => bt s0 b) 12 x = true := by
          intro x hx q
          have up : ∀ n, zg_B P (fun b => bt (mm_I N 18 1) b) h (fun b => bt s0 b) n x = true := by
            intro n
            induction n with
            | zero => exact q
            | succ n ih => exact zg_B_succ.mpr (Or.inl ih)
          exact up 12
        rcases hB with e | ⟨o, e1, e2⟩
        · exact base b hb (by rw [hS0 b hb, e]; simp)
        · have ol := (zp_ed_lt hV e1.1).1
          refine zs_back (S := fun r => zp_RB P r → zg_B P (fun b => bt (mm_I N 18 1) b) h (fun b => bt s0 b) 12 r = true) e2 (fun _ => base o (by omega) (by rw [hS0 o (by omega), (ho o (by omega)).mpr e1]; rfl)) (fun x y exy ih hx => ?_) hr
          have hl := zp_ed_lt hV exy.1
          have hy : zp_RB P y := zs_go hx exy.1
          rw [← zg_B_still (x0 := h) hh (by show bt s0 h = true; rw [hS0 h (by omega)]; simp) x (by omega)]
          exact zg_B_succ.mpr (Or.inr ⟨(hR x (by omega)).mpr hx, y, by omega, ih hy, exy.2, exy.1⟩)
    refine zh_up (F := fun fu i (x : Int32) => lf_G_findBody_24 18 (io_shl 1 (nI h)) N fu x i) 12 (fun i x => ∀ b, b < 32 → bt x b = zg_B P (fun b => bt (mm_I N 18 1) b) h (fun b => bt s0 b) i b) ?_ ?_ fu_L 0 s0 (Nat.zero_le _) (by rw [zs_fuel]; omega) (fun b _ => rfl)
    · intro fu i x hi hx k
      show zh_H (lb_G_findBody_24 18 (io_shl 1 (nI h)) N (lf_G_findBody_24 18 (io_shl 1 (nI h)) N fu) x (nI i)) _
      unfold lb_G_findBody_24
      rw [if_neg (show ¬ (12 : Int32) ≤ nI i from nI_ge (b := 12) hi (by omega)), zg_R e18, Option.bind_some, hG.2.1.2.1]
      obtain ⟨u, eu, hu⟩ := zg_union hG.2.2.2.1 (x &&& (io_shl 1 (nI h) ^^^ -1))
      rw [eu, Option.bind_some, zg_I e18, Option.bind_some, Option.bind_some, Option.bind_some, nI_1]
      refine k _ (fun b hb => ?_)
      have goal : bt (x ||| (u &&& mm_I N 18 1)) b = true ↔ zg_B P (fun b => bt (mm_I N 18 1) b) h (fun b => bt s0 b) (i + 1) b = true := by
        rw [b_or, b_and, Bool.or_eq_true, Bool.and_eq_true, hu b hb, zg_B_succ, hx b hb]
        refine or_congr Iff.rfl ⟨?_, ?_⟩
        · rintro ⟨⟨y, q1, q2, q3⟩, q4⟩
          rw [b_and, zb_not _ (by omega), zb_one h (by omega), hx y (by omega), Bool.and_eq_true, Bool.not_eq_true', decide_eq_false_iff_not] at q2
          rw [hm.1.1 y q1 b hb] at q3
          exact ⟨q4, y, q1, q2.1, q2.2, q3⟩
        · rintro ⟨q4, y, q1, q2, q3, q5⟩
          refine ⟨⟨y, q1, ?_, by rw [hm.1.1 y q1 b hb]; exact q5⟩, q4⟩
          rw [b_and, zb_not _ (by omega), zb_one h (by omega), hx y (by omega), Bool.and_eq_true, Bool.not_eq_true', decide_eq_false_iff_not]
          exact ⟨q2, q3⟩
      exact Bool.eq_iff_iff.mpr goal
    · intro fu x hx
      show zh_H (lb_G_findBody_24 18 (io_shl 1 (nI h)) N (lf_G_findBody_24 18 (io_shl 1 (nI h)) N fu) x (nI 12)) _
      unfold lb_G_findBody_24
      rw [if_pos (show (12 : Int32) ≤ nI 12 from nI_le (a := 12) (Nat.le_refl _) (by omega))]
      exact zh_some hx
theorem zg_analyse {M : mm_T} {P : zp_T} (hG : zk_G M) (hP : zo_P M 45) (hH : zo_H M 45 P) (hV : zp_V P) : ∃ M', ff_G_analyse 18 45 M = some M' ∧ zf_F M M' zg_A ∧ zd_G M' P ∧ mm_I M' 18 0 = 1 := by
  have hnb := hV.2.1
  have e18 : (mm_k M 18).1 = 2 := by rw [hG.1]
  unfold ff_G_analyse
  rw [zq_gd e18]
  obtain ⟨M1, e1, f1, s1, p1⟩ := zg_edges hG hP hH hV
  rw [e1, Option.bind_some]
  have hG1 := hG.keep f1
  obtain ⟨M2, e2, f2, -, d2⟩ := zg_measure hG1 hV s1
  rw [e2, Option.bind_some]
  have hG2 := hG1.keep f2
  have hPre : zg_Pre P M2 := by
    refine ⟨fun c hc a ha => by rw [zf_i f2 (by omega)]; exact p1 c hc a ha, fun x hx => ?_⟩
    rw [d2.1 x hx]
    exact (zp_RB_nr hV).symm
  obtain ⟨M3, e3, f3, d3⟩ := zg_dominators hG2 hV hPre
  rw [e3, Option.bind_some]
  have hG3 := hG2.keep f3
  have hMid : zg_Mid M3 P := by
    refine ⟨⟨fun c hc a ha => by rw [zf_i f3 (by omega)]; exact hPre.1 c hc a ha, fun x hx => by rw [zf_i f3 (by omega)]; exact hPre.2 x hx⟩, fun b hb => ?_, d3⟩
    rw [zf_i f3 (by omega)]
    exact d2.2 b hb
  have f13 : zf_F M M3 zg_A := zf_tr (zf_mono f1 (fun a h => by unfold zg_A; omega)) (zf_tr (zf_mono f2 (fun a h => by unfold zg_A; omega)) (zf_mono f3 (fun a h => by unfold zg_A; omega)))
  refine zh_up (F := fun fu i N => lf_G_analyse_15 _ 18 fu i N) (Q := fun M' => zf_F M M' zg_A ∧ zd_G M' P ∧ mm_I M' 18 0 = 1) 12 (fun i N => zf_F M3 N (fun x => x = 23) ∧ ∀ h, h < i → ∀ b, b < 32 → (bt (mm_I N 23 h) b = true ↔ zp_BD P h b)) ?_ ?_ fu_L 0 M3 (Nat.zero_le _) (by rw [zs_fuel]; omega) ⟨zf_rfl _ _, fun h hh => absurd hh (Nat.not_lt_zero _)⟩
  · intro fu i N hi ⟨h1, h2⟩ k
    have hG' := hG3.keep h1
    have e18 : (mm_k N 18).1 = 2 := by rw [hG'.1]
    show zh_H (lb_G_analyse_15 _ 18 (lf_G_analyse_15 _ 18 fu) (nI i) N) _
    unfold lb_G_analyse_15
    obtain ⟨x, ex, hx⟩ := zg_body hG' hV (hMid.keep h1) hi
    rw [if_neg (show ¬ (12 : Int32) ≤ nI i from nI_ge (b := 12) hi (by omega)), zg_R e18, Option.bind_some, hG'.2.1.2.2.2.2, ex, Option.bind_some, zd_put hG'.2.2.2.2.2.2 hi (by omega), Option.bind_some, Option.bind_some, nI_1]
    refine k _ ⟨zf_tr h1 (zf_I (A := fun x => x = 23) rfl _ _), fun h hh b hb => ?_⟩
    rw [zm_II]
    by_cases c : h = i
    · rw [if_pos ⟨rfl, c⟩, c]; exact hx b hb
    · rw [if_neg (fun q => c q.2)]; exact h2 h (by omega) b hb
  · intro fu N ⟨h1, h2⟩
    have hG' := hG3.keep h1
    have e18 : (mm_k N 18).1 = 2 := by rw [hG'.1]
    show zh_H (lb_G_analyse_15 _ 18 (lf_G_analyse_15 _ 18 fu) (nI 12) N) _
    unfold lb_G_analyse_15
    rw [if_pos (show (12 : Int32) ≤ nI 12 from nI_le (a := 12) (Nat.le_refl _) (by omega))]
    dsimp only
    rw [zp_Z1 e18, Option.bind_some]
    obtain ⟨⟨m1, m2⟩, m3, m4⟩ := hMid.keep h1
    refine zh_some ⟨zf_tr f13 (zf_tr (zf_mono h1 (fun a h => by unfold zg_A; omega)) (zf_I (by unfold zg_A; omega) _ _)), ⟨⟨fun c hc a ha => ?_, fun x hx => ?_⟩, fun b hb => ?_, fun b hb a ha => ?_, fun h hh b hb => ?_⟩, by rw [zm_II, if_pos ⟨rfl, rfl⟩]⟩
    · rw [zm_II, if_neg (by omega)]; exact m1 c hc a ha
    · rw [zm_II, if_neg (by omega)]; exact m2 x hx
    · rw [zm_II, if_neg (by omega)]; exact m3 b hb
    · rw [zm_II, if_neg (by omega)]; exact m4 b hb a ha
    · rw [zm_II, if_neg (by omega)]; exact h2 h hh b hb
