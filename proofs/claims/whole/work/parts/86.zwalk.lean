/-! ===== the reference: its walks ===== -/
/-- the row of seen blocks -/
def zw_B (M : mm_T) : Prop := ∀ x, x < 12 → mm_I M 55 x = 0 ∨ mm_I M 55 x = 1
def zw_s (M : mm_T) (x : Nat) : Prop := mm_I M 55 x = 1
def zw_c (M : mm_T) : Nat := fb_ct (fun x => decide (mm_I M 55 x = 0)) 12
theorem zw_forget {M : mm_T} (hR : zt_R M) : ∃ M', ff_M_forgets 52 M = some M' ∧ zf_F M M' (fun x => x = 55) ∧ ∀ x, x < 12 → mm_I M' 55 x = 0 := by
  have e52 : (mm_k M 52).1 = 11 := by rw [hR.1]
  unfold ff_M_forgets
  rw [zq_gd e52]
  refine zh_up (F := fun fu i N => lf_M_forgets_2 52 fu i N) (Q := fun M' => zf_F M M' (fun x => x = 55) ∧ ∀ x, x < 12 → mm_I M' 55 x = 0) 12 (fun i N => zf_F M N (fun x => x = 55) ∧ ∀ x, x < i → mm_I N 55 x = 0) ?_ ?_ fu_L 0 M (Nat.zero_le _) (by rw [zs_fuel]; omega) ⟨zf_rfl _ _, fun x hx => absurd hx (Nat.not_lt_zero _)⟩
  · intro fu i N hi ⟨h1, h2⟩ k
    have hR' := hR.keep h1
    have e52 : (mm_k N 52).1 = 11 := by rw [hR'.1]
    show zh_H (lb_M_forgets_2 52 (lf_M_forgets_2 52 fu) (nI i) N) _
    unfold lb_M_forgets_2
    rw [if_neg (show ¬ (12 : Int32) ≤ nI i from nI_ge (b := 12) hi (by omega)), zg_R e52, Option.bind_some, hR'.2.1.2.2.1, show (0 : Int32) = zb_B false from rfl, zw_Z hR'.2.2.2.2.1 hi (by omega), Option.bind_some, Option.bind_some, nI_1]
    refine k _ ⟨zf_tr h1 (zf_I (A := fun x => x = 55) rfl _ _), fun x hx => ?_⟩
    rw [zm_II]
    by_cases c : x = i
    · rw [if_pos ⟨rfl, c⟩]; rfl
    · rw [if_neg (fun q => c q.2)]; exact h2 x (by omega)
  · intro fu N h
    show zh_H (lb_M_forgets_2 52 (lf_M_forgets_2 52 fu) (nI 12) N) _
    unfold lb_M_forgets_2
    rw [if_pos (show (12 : Int32) ≤ nI 12 from nI_le (a := 12) (Nat.le_refl _) (by omega))]
    exact zh_some h
/-- a block through which a walk goes on -/
def zw_T (P : zp_T) (vo : Option Nat) (x : Nat) : Prop := ∀ v, vo = some v → ¬ zp_dw P (zp_st P x) (zp_st P (x + 1)) v
def zw_E (P : zp_T) (vo bo : Option Nat) (x y : Nat) : Prop := zw_T P vo x ∧ zp_ed P x y = true ∧ some y ≠ bo
/-- what a walk has added is closed -/
def zw_C (P : zp_T) (vo bo : Option Nat) (M M' : mm_T) : Prop := ∀ x, x < zp_nb P → zw_s M' x → ¬ zw_s M x → ∀ y, zw_E P vo bo x y → zw_s M' y
def zw_D (P : zp_T) (vo bo : Option Nat) (M M' : mm_T) : Prop := zf_F M M' (fun x => x = 55) ∧ zw_B M' ∧ (∀ x, x < 12 → zw_s M x → zw_s M' x) ∧ zw_C P vo bo M M'
theorem zw_walks {P : zp_T} {o : Nat} {vo bo : Option Nat} (hvo : ∀ v, vo = some v → v < 8) (hbo : ∀ v, bo = some v → v < 2 ^ 31) : ∀ d M b, zt_S M o P → zw_B M → b < zp_nb P → zw_c M < d → ∃ M', ff_M_walks d 52 (nI b) (zo_N vo) (zo_N bo) M = some M' ∧ zw_D P vo bo M M' ∧ (some b ≠ bo → zw_s M' b) ∧ ∀ x, x < 12 → zw_s M' x → zw_s M x ∨ (some b ≠ bo ∧ zs_P (zw_E P vo bo) b x) := by
  intro d
  induction d with
  | zero => intro M b _ _ _ h; exact absurd h (Nat.not_lt_zero _)
  | succ d ih =>
    intro M b hS hB hb hc
    have hV := hS.2.2.2.2
    have hnb := hV.2.1
    have hR := hS.1
    have e52 : (mm_k M 52).1 = 11 := by rw [hR.1]
    show zh_H (fb_M_walks (ff_M_walks d) 52 (nI b) (zo_N vo) (zo_N bo) M) _
    unfold fb_M_walks
    rw [zq_gd e52]
    simp only [zg_R e52, Option.bind_some, hR.2.1.2.2.1, za_Z hR.2.2.2.2.1 (show b < 12 by omega) (by omega)]
    rcases hB b (by omega) with h0 | h1
    · rw [h0, if_pos rfl]
      by_cases cb : bo = some b
      · rw [if_pos (by rw [cb]; rfl)]
        exact zh_some ⟨⟨zf_rfl _ _, hB, fun _ _ h => h, fun x _ h1 h2 => absurd h1 h2⟩, fun q => absurd cb.symm q, fun x _ h => Or.inl h⟩
      · have hne : ¬ nI b = zo_N bo := by
          intro q
          cases e : bo with
          | none => rw [e] at q; exact zi_n1 (by omega) q
          | some w =>
            rw [e] at q
            have := hbo w e
            exact cb (by rw [e, (nI_eq (by omega) this).mp q])
        have ez : aw_Z M 55 (nI b) 1 = some (mm_sI M 55 b 1) := zw_Z hR.2.2.2.2.1 (show b < 12 by omega) (by omega) true
        rw [if_neg hne, ez, Option.bind_some]
        simp only [zq_jp]
        have f1 : zf_F M (mm_sI M 55 b 1) (fun x => x = 55) := zf_I (A := fun x => x = 55) rfl _ _
        have hS1 : zt_S (mm_sI M 55 b 1) o P := hS.keepA f1 (fun a h => by unfold zt_A; omega)
        have s1 : ∀ x, zw_s (mm_sI M 55 b 1) x ↔ (x = b ∨ zw_s M x) := by
          intro x
          unfold zw_s
          rw [zm_II]
          by_cases c : x = b
          · rw [if_pos ⟨rfl, c⟩]; simp [c]
          · rw [if_neg (fun q => c q.2)]; simp [c]
        have hB1 : zw_B (mm_sI M 55 b 1) := by
          intro x hx
          rw [zm_II]
          by_cases c : x = b
          · rw [if_pos ⟨rfl, c⟩]; exact Or.inr rfl
          · rw [if_neg (fun q => c q.2)]; exact hB x hx
        have hc1 : zw_c (mm_sI M 55 b 1) < d := by
          have : zw_c (mm_sI M 55 b 1) < zw_c M := by
            refine zs_ctlt (x := b) (fun k _ hk => ?_) (by omega) (by rw [zm_II, if_pos ⟨rfl, rfl⟩]; rfl) (by rw [h0]; rfl)
            rw [zm_II] at hk
            by_cases c : k = b
            · rw [if_pos ⟨rfl, c⟩] at hk; exact absurd hk (by decide)
            · rw [if_neg (fun q => c q.2)] at hk; exact hk
          omega
        have hns : ¬ zw_s M b := by unfold zw_s; rw [h0]; decide
        generalize hM1 : mm_sI M 55 b 1 = M1 at *
        -- the walk goes on
        have goOn : zw_T P vo b → zh_H (lf_M_walks_49 (ff_M_walks d) 52 (nI b) (zo_N vo) (zo_N bo) fu_L 0 M1) (fun M' => zw_D P vo bo M M' ∧ (some b ≠ bo → zw_s M' b) ∧ ∀ x, x < 12 → zw_s M' x → zw_s M x ∨ (some b ≠ bo ∧ zs_P (zw_E P vo bo) b x)) := by
          intro hT
          have hw := zp_w_le hV hb
          refine zh_up (F := fun fu i N => lf_M_walks_49 (ff_M_walks d) 52 (nI b) (zo_N vo) (zo_N bo) fu i N) (zp_w P b) (fun i N => zw_D P vo bo M1 N ∧ (∀ k, k < i → some (zp_way P b k) ≠ bo → zw_s N (zp_way P b k)) ∧ ∀ x, x < 12 → zw_s N x → zw_s M1 x ∨ zs_P (zw_E P vo bo) b x) ?_ ?_ fu_L 0 M1 (Nat.zero_le _) (by rw [zs_fuel]; omega) ⟨⟨zf_rfl _ _, hB1, fun _ _ h => h, fun x _ h1 h2 => absurd h1 h2⟩, fun k hk => absurd hk (Nat.not_lt_zero _), fun x _ h => Or.inl h⟩
          · intro fu i N hi ⟨⟨n1, n2, n3, n4⟩, n5, n6⟩ k
            have hS2 : zt_S N o P := hS1.keepA n1 (fun a h => by unfold zt_A; omega)
            have hq := zp_way_lt hV hb hi
            show zh_H (lb_M_walks_49 (ff_M_walks d) 52 (nI b) (zo_N vo) (zo_N bo) (lf_M_walks_49 (ff_M_walks d) 52 (nI b) (zo_N vo) (zo_N bo) fu) (nI i) N) _
            unfold lb_M_walks_49
            rw [zt_ways hS2 hb, Option.bind_some, if_neg (nI_ge hi (by omega)), zt_way hS2 hb hi, Option.bind_some]
            have hcN : zw_c N < d := by
              refine Nat.lt_of_le_of_lt (fb_ct_sub (fun x hx h => ?_)) hc1
              simp only [decide_eq_true_eq] at h ⊢
              rcases hB1 x hx with q | q
              · exact q
              · have := n3 x hx q
                unfold zw_s at this
                rw [this] at h
                exact absurd h (by decide)
            obtain ⟨N', eN, ⟨m1, m2, m3, m4⟩, m5, m6⟩ := ih N (zp_way P b i) hS2 n2 hq hcN
            rw [eN, Option.bind_some, Option.bind_some, nI_1]
            refine k _ ⟨⟨zf_tr n1 m1, m2, fun x hx h => m3 x hx (n3 x hx h), fun x hx h1 h2 y hy => ?_⟩, fun j hj hjb => ?_, fun x hx h => ?_⟩
            · by_cases q : zw_s N x
              · exact m3 y (by have := (zp_ed_lt hV hy.2.1).2; omega) (n4 x hx q h2 y hy)
              · exact m4 x hx h1 q y hy
            · rcases Nat.lt_or_ge j i with c | c
              · exact m3 _ (by have := zp_way_lt hV hb (show j < zp_w P b by omega); omega) (n5 j c hjb)
              · rw [show j = i by omega] at hjb ⊢
                exact m5 hjb
            · rcases m6 x hx h with q | ⟨q1, q2⟩
              · exact n6 x hx q
              · exact Or.inr (zs_Pcons ⟨hT, (zp_ed_way hV).mpr ⟨hb, i, hi, rfl⟩, q1⟩ q2)
          · intro fu N ⟨⟨n1, n2, n3, n4⟩, n5, n6⟩
            have hS2 : zt_S N o P := hS1.keepA n1 (fun a h => by unfold zt_A; omega)
            show zh_H (lb_M_walks_49 (ff_M_walks d) 52 (nI b) (zo_N vo) (zo_N bo) (lf_M_walks_49 (ff_M_walks d) 52 (nI b) (zo_N vo) (zo_N bo) fu) (nI (zp_w P b)) N) _
            unfold lb_M_walks_49
            rw [zt_ways hS2 hb, Option.bind_some, if_pos (nI_le (Nat.le_refl _) (by omega))]
            refine zh_some ⟨⟨zf_tr f1 n1, n2, fun x hx h => n3 x hx ((s1 x).mpr (Or.inr h)), fun x hx h1 h2 y hy => ?_⟩, fun _ => n3 b (by omega) ((s1 b).mpr (Or.inl rfl)), fun x hx h => ?_⟩
            · by_cases q : zw_s M1 x
              · rcases (s1 x).mp q with e | e
                · rw [e] at hy
                  obtain ⟨_, k, hk, e2⟩ := (zp_ed_way hV).mp hy.2.1
                  rw [e2]
                  exact n5 k hk (by rw [← e2]; exact hy.2.2)
                · exact absurd e h2
              · exact n4 x hx h1 q y hy
            · rcases n6 x hx h with q | q
              · rcases (s1 x).mp q with e | e
                · rw [e]; exact Or.inr ⟨Ne.symm cb, zs_P0 b⟩
                · exact Or.inl e
              · exact Or.inr ⟨Ne.symm cb, q⟩
        cases hvo2 : vo with
        | none =>
          rw [if_pos zo_none]
          rw [hvo2] at goOn
          exact goOn (fun v hv => by cases hv)
        | some v =>
          have hv8 := hvo v hvo2
          have hm := hV.2.2.2.2.1 b hb
          obtain ⟨w, ew, hw2⟩ := zt_dw hS1 hm (zp_st_le hV (b := b + 1) (by omega)) (show v < 2 ^ 31 by omega)
          rw [zo_some, if_neg (zi_n1 (by omega)), zt_firstOf hS1 (by omega), Option.bind_some, zt_endOf hS1 hb, Option.bind_some, ew, Option.bind_some]
          rw [hvo2] at goOn
          cases w with
          | false =>
            rw [if_pos zb_f]
            refine goOn (fun u hu => ?_)
            cases hu
            exact fun q => by have := hw2.mpr q; cases this
          | true =>
            rw [if_neg (by decide)]
            refine zh_some ⟨⟨f1, hB1, fun x _ h => (s1 x).mpr (Or.inr h), fun x hx h1 h2 y hy => ?_⟩, fun _ => (s1 b).mpr (Or.inl rfl), fun x hx h => ?_⟩
            · rcases (s1 x).mp h1 with e | e
              · rw [e] at hy
                exact absurd (hw2.mp rfl) (hy.1 v rfl)
              · exact absurd e h2
            · rcases (s1 x).mp h with e | e
              · rw [e]; exact Or.inr ⟨Ne.symm cb, zs_P0 b⟩
              · exact Or.inl e
    · rw [h1, if_neg (by decide)]
      exact zh_some ⟨⟨zf_rfl _ _, hB, fun _ _ h => h, fun x _ h1 h2 => absurd h1 h2⟩, fun _ => h1, fun x _ h => Or.inl h⟩
/-- a walk from one root, nothing seen before -/
theorem zw_root {P : zp_T} {o : Nat} {vo bo : Option Nat} (hvo : ∀ v, vo = some v → v < 8) (hbo : ∀ v, bo = some v → v < 2 ^ 31) {M : mm_T} {b : Nat} (hS : zt_S M o P) (hb : b < zp_nb P) (h0 : ∀ x, x < 12 → mm_I M 55 x = 0) : ∃ M', ff_M_walks 13 52 (nI b) (zo_N vo) (zo_N bo) M = some M' ∧ zf_F M M' (fun x => x = 55) ∧ zw_B M' ∧ ∀ x, x < 12 → (zw_s M' x ↔ zs_R (fun x => x = b ∧ some b ≠ bo) (zw_E P vo bo) x) := by
  have hV := hS.2.2.2.2
  have hnb := hV.2.1
  obtain ⟨M', e, ⟨m1, m2, m3, m4⟩, m5, m6⟩ := zw_walks hvo hbo 13 M b hS (fun x hx => Or.inl (h0 x hx)) hb (by have := fb_ct_le (fun x => decide (mm_I M 55 x = 0)) 12; unfold zw_c; omega)
  have hno : ∀ x, x < 12 → ¬ zw_s M x := fun x hx q => by unfold zw_s at q; rw [h0 x hx] at q; exact absurd q (by decide)
  refine ⟨M', e, m1, m2, fun x hx => ⟨fun h => ?_, fun h => ?_⟩⟩
  · rcases m6 x hx h with q | ⟨q1, q2⟩
    · exact absurd q (hno x hx)
    · exact zs_RP.mpr ⟨b, ⟨rfl, q1⟩, q2⟩
  · have : zw_s M' x ∧ x < zp_nb P := by
      refine zs_ind (S := fun x => zw_s M' x ∧ x < zp_nb P) (fun y hy => ?_) (fun y z _ hy hz => ?_) h
      · rw [hy.1]; exact ⟨m5 hy.2, hb⟩
      · exact ⟨m4 y hy.2 hy.1 (hno y (by omega)) z hz, (zp_ed_lt hV hz.2.1).2⟩
    exact this.1
