/-! ===== the reference: live variables, dead definitions ===== -/
noncomputable def zp_b (Φ : Prop) : Bool := @decide Φ (Classical.propDecidable Φ)
theorem zp_b_iff {Φ : Prop} : zp_b Φ = true ↔ Φ := by
  unfold zp_b
  exact @decide_eq_true_iff Φ (Classical.propDecidable Φ)
theorem zp_b_eq {Φ : Prop} {b : Bool} (h : b = true ↔ Φ) : b = zp_b Φ := Bool.eq_iff_iff.mpr (h.trans zp_b_iff.symm)
theorem zp_b_cong {Φ Ψ : Prop} (h : Φ ↔ Ψ) : zp_b Φ = zp_b Ψ := Bool.eq_iff_iff.mpr (zp_b_iff.trans (h.trans zp_b_iff.symm))
section ZR3
variable {M : mm_T} {o : Nat} {P : zp_T}
theorem zt_fate (h : zt_S M o P) {b k v : Nat} (hb : b < zp_nb P) (h1 : zp_st P b ≤ k) (h2 : k ≤ zp_st P (b + 1)) (hv : v < 8) : ∃ r : Int32, ff_M_fate 52 (nI b) (nI k) (nI v) M = some r ∧ ((r = 1 ∧ zp_fu P b k v) ∨ (r = 0 ∧ ¬ zp_fu P b k v ∧ ¬ zp_ft P b k v) ∨ (r = -1 ∧ ¬ zp_fu P b k v ∧ zp_ft P b k v)) := by
  have hV := h.2.2.2.2
  have hnb := hV.2.1
  have hni := hV.2.2.1
  have e52 : (mm_k M 52).1 = 11 := by rw [h.1.1]
  have hse := zp_st_le hV (b := b + 1) (by omega)
  unfold ff_M_fate
  rw [zq_gd e52]
  refine zh_up (F := fun fu i (_ : Unit) => lf_M_fate_3 _ 52 (nI b) (nI v) M fu i) (Q := fun r => (r = 1 ∧ zp_fu P b k v) ∨ (r = 0 ∧ ¬ zp_fu P b k v ∧ ¬ zp_ft P b k v) ∨ (r = -1 ∧ ¬ zp_fu P b k v ∧ zp_ft P b k v)) (zp_st P (b + 1)) (fun i _ => k ≤ i ∧ (∀ m, k ≤ m → m < i → zp_us P m v ≠ true) ∧ ¬ zp_dw P k i v) ?_ ?_ fu_L k () h2 (by rw [zs_fuel]; omega) ⟨Nat.le_refl _, fun m z1 z2 => by omega, fun ⟨j, z1, z2, _⟩ => by omega⟩
  · intro fu i s hi ⟨g1, g2, g3⟩ kk
    show zh_H (lb_M_fate_3 _ 52 (nI b) (nI v) M (lf_M_fate_3 _ 52 (nI b) (nI v) M fu) (nI i)) _
    unfold lb_M_fate_3
    have epl : zp_pl P b i = i := by unfold zp_pl; rw [if_pos hi]
    rw [zt_endOf h hb, Option.bind_some, if_neg (nI_ge hi (by omega)), zt_uses h (by omega) (by omega), Option.bind_some]
    cases e : zp_us P i v with
    | true =>
      rw [if_neg (by decide)]
      exact zh_some (Or.inl ⟨rfl, i, g1, by omega, by rw [epl]; exact e, g3⟩)
    | false =>
      rw [if_pos (by decide), zt_defines h (by omega) (by omega), Option.bind_some]
      by_cases c : zp_df P i = some v
      · rw [if_neg (by simp [c, zb_B])]
        refine zh_some (Or.inr (Or.inl ⟨rfl, ?_, fun q => q ⟨i, g1, hi, c⟩⟩))
        rintro ⟨m, z1, z2, z3, z4⟩
        have epm : m < i + 1 → zp_pl P b m = m := fun q => by unfold zp_pl; rw [if_pos (by omega)]
        rcases Nat.lt_or_ge m i with q | q
        · rw [epm (by omega)] at z3; exact g2 m z1 q z3
        · rcases Nat.lt_or_ge i m with q2 | q2
          · exact z4 ⟨i, g1, q2, c⟩
          · rw [show m = i by omega, epl, e] at z3; cases z3
      · rw [if_pos (by simp [c, zb_B]), Option.bind_some, nI_1]
        refine kk () ⟨by omega, fun m z1 z2 => ?_, zp_dw_succ g3 c⟩
        rcases Nat.lt_or_ge m i with q | q
        · exact g2 m z1 q
        · rw [show m = i by omega, e]; simp
  · intro fu s ⟨g1, g2, g3⟩
    show zh_H (lb_M_fate_3 _ 52 (nI b) (nI v) M (lf_M_fate_3 _ 52 (nI b) (nI v) M fu) (nI (zp_st P (b + 1)))) _
    unfold lb_M_fate_3
    have epl : zp_pl P b (zp_st P (b + 1)) = 40 + b := by unfold zp_pl; rw [if_neg (Nat.lt_irrefl _)]
    rw [zt_endOf h hb, Option.bind_some, if_pos (nI_le (Nat.le_refl _) (by omega)), zt_usesX h hb (by omega), Option.bind_some]
    cases e : zp_us P (40 + b) v with
    | true =>
      rw [if_neg (by decide)]
      exact zh_some (Or.inl ⟨rfl, _, g1, Nat.le_refl _, by rw [epl]; exact e, g3⟩)
    | false =>
      rw [if_pos (by decide)]
      refine zh_some (Or.inr (Or.inr ⟨rfl, ?_, g3⟩))
      rintro ⟨m, z1, z2, z3, z4⟩
      rcases Nat.lt_or_ge m (zp_st P (b + 1)) with q | q
      · have epm : zp_pl P b m = m := by unfold zp_pl; rw [if_pos q]
        rw [epm] at z3
        exact g2 m z1 q z3
      · rw [show m = zp_st P (b + 1) by omega, epl, e] at z3; cases z3
/-- blocks that were added without finding a use -/
def zw_U (P : zp_T) (v : Nat) (M M' : mm_T) : Prop := zf_F M M' (fun x => x = 55) ∧ zw_B M' ∧ (∀ x, x < 12 → zw_s M x → zw_s M' x) ∧ ∀ x, x < zp_nb P → zw_s M' x → ¬ zw_s M x → ¬ zp_fu P x (zp_st P x) v ∧ (zp_ft P x (zp_st P x) v → ∀ y, zp_ed P x y = true → zw_s M' y)
theorem zw_used {v : Nat} (hv : v < 8) : ∀ d M b, zt_S M o P → zw_B M → b < zp_nb P → zw_c M < d → ∃ (c : Bool) (M' : mm_T), ff_M_isUsedFrom d 52 (nI b) (nI v) M = some (zb_B c, M') ∧ zf_F M M' (fun x => x = 55) ∧ (c = true → zp_LB P v b) ∧ (c = false → zw_U P v M M' ∧ zw_s M' b) := by
  intro d
  induction d with
  | zero => intro M b _ _ _ h; exact absurd h (Nat.not_lt_zero _)
  | succ d ih =>
    intro M b hS hB hb hc
    have hV := hS.2.2.2.2
    have hnb := hV.2.1
    have hR := hS.1
    have e52 : (mm_k M 52).1 = 11 := by rw [hR.1]
    suffices goal : zh_H (fb_M_isUsedFrom (ff_M_isUsedFrom d) 52 (nI b) (nI v) M) (fun y => ∃ (c : Bool) (M' : mm_T), y = (zb_B c, M') ∧ zf_F M M' (fun x => x = 55) ∧ (c = true → zp_LB P v b) ∧ (c = false → zw_U P v M M' ∧ zw_s M' b)) by
      obtain ⟨y, e, c, M', rfl, g⟩ := goal
      exact ⟨c, M', e, g⟩
    unfold fb_M_isUsedFrom
    rw [zq_gd e52]
    simp only [zg_R e52, Option.bind_some, hR.2.1.2.2.1, za_Z hR.2.2.2.2.1 (show b < 12 by omega) (by omega)]
    rcases hB b (by omega) with h0 | h1
    · rw [h0, if_pos rfl]
      have ez : aw_Z M 55 (nI b) 1 = some (mm_sI M 55 b 1) := zw_Z hR.2.2.2.2.1 (show b < 12 by omega) (by omega) true
      rw [ez, Option.bind_some]
      have f1 : zf_F M (mm_sI M 55 b 1) (fun x => x = 55) := zf_I (A := fun x => x = 55) rfl _ _
      have hS1 : zt_S (mm_sI M 55 b 1) o P := hS.keepA f1 (fun a h => by unfold zt_A; omega)
      have s1 : ∀ x, zw_s (mm_sI M 55 b 1) x ↔ (x = b ∨ zw_s M x) := by
        intro x
        unfold zw_s
        rw [zm_II]
        by_cases c : x = b
        · rw [if_pos ⟨rfl, c⟩]; simp [c]
        · rw [if_neg (fun q => c q.2)]; simp [c]
      have hB1 : zw_B (mm_sI M 55 b 1) := by
        intro x hx
        rw [zm_II]
        by_cases c : x = b
        · rw [if_pos ⟨rfl, c⟩]; exact Or.inr rfl
        · rw [if_neg (fun q => c q.2)]; exact hB x hx
      have hc1 : zw_c (mm_sI M 55 b 1) < d := by
        have : zw_c (mm_sI M 55 b 1) < zw_c M := by
          refine zs_ctlt (x := b) (fun k _ hk => ?_) (by omega) (by rw [zm_II, if_pos ⟨rfl, rfl⟩]; rfl) (by rw [h0]; rfl)
          rw [zm_II] at hk
          by_cases c : k = b
          · rw [if_pos ⟨rfl, c⟩] at hk; exact absurd hk (by decide)
          · rw [if_neg (fun q => c q.2)] at hk; exact hk
        omega
      generalize hM1 : mm_sI M 55 b 1 = M1 at *
      obtain ⟨r, er, hr⟩ := zt_fate hS1 hb (Nat.le_refl _) (hV.2.2.2.2.1 b hb) hv
      rw [zt_firstOf hS1 (by omega), Option.bind_some, er, Option.bind_some]
      rcases hr with ⟨rfl, r1⟩ | ⟨rfl, r1, r2⟩ | ⟨rfl, r1, r2⟩
      · rw [if_neg (by decide), if_pos rfl]
        exact zh_some ⟨true, M1, rfl, f1, fun _ => zs_in ⟨hb, r1⟩, by intro h; cases h⟩
      · rw [if_neg (by decide), if_neg (by decide)]
        refine zh_some ⟨false, M1, rfl, f1, (by intro h; cases h), fun _ => ⟨⟨f1, hB1, fun x _ h => (s1 x).mpr (Or.inr h), fun x hx g1 g2 => ?_⟩, (s1 b).mpr (Or.inl rfl)⟩⟩
        rcases (s1 x).mp g1 with e | e
        · rw [e]; exact ⟨r1, fun q => absurd q r2⟩
        · exact absurd e g2
      · rw [if_pos rfl]
        have hw := zp_w_le hV hb
        refine zh_up (F := fun fu i N => lf_M_isUsedFrom_49 (ff_M_isUsedFrom d) 52 (nI b) (nI v) fu i N) (zp_w P b) (fun i N => zw_U P v M1 N ∧ ∀ k, k < i → zw_s N (zp_way P b k)) ?_ ?_ fu_L 0 M1 (Nat.zero_le _) (by rw [zs_fuel]; omega) ⟨⟨zf_rfl _ _, hB1, fun _ _ h => h, fun x _ h1 h2 => absurd h1 h2⟩, fun k hk => absurd hk (Nat.not_lt_zero _)⟩
        · intro fu i N hi ⟨⟨n1, n2, n3, n4⟩, n5⟩ k
          have hS2 : zt_S N o P := hS1.keepA n1 (fun a h => by unfold zt_A; omega)
          have hq := zp_way_lt hV hb hi
          have hway : zp_ed P b (zp_way P b i) = true := (zp_ed_way hV).mpr ⟨hb, i, hi, rfl⟩
          show zh_H (lb_M_isUsedFrom_49 (ff_M_isUsedFrom d) 52 (nI b) (nI v) (lf_M_isUsedFrom_49 (ff_M_isUsedFrom d) 52 (nI b) (nI v) fu) (nI i) N) _
          unfold lb_M_isUsedFrom_49
          rw [zt_ways hS2 hb, Option.bind_some, if_neg (nI_ge hi (by omega)), zt_way hS2 hb hi, Option.bind_some]
          have hcN : zw_c N < d := by
            refine Nat.lt_of_le_of_lt (fb_ct_sub (fun x hx h => ?_)) hc1
            simp only [decide_eq_true_eq] at h ⊢
            rcases hB1 x hx with q | q
            · exact q
            · have := n3 x hx q
              unfold zw_s at this
              rw [this] at h
              exact absurd h (by decide)
          obtain ⟨c, N', eN, m1, m2, m3⟩ := ih N (zp_way P b i) hS2 n2 hq hcN
          refine zh_at2 eN ?_
          cases c with
          | true =>
            rw [if_neg (by decide)]
            exact zh_some ⟨true, N', rfl, zf_tr f1 (zf_tr n1 m1), fun _ => zs_go (m2 rfl) ⟨hway, r2⟩, by intro h; cases h⟩
          | false =>
            obtain ⟨⟨u1, u2, u3, u4⟩, u5⟩ := m3 rfl
            rw [if_pos (by decide), Option.bind_some, nI_1]
            refine k _ ⟨⟨zf_tr n1 m1, u2, fun x hx h => u3 x hx (n3 x hx h), fun x hx g1 g2 => ?_⟩, fun j hj => ?_⟩
            · by_cases q : zw_s N x
              · obtain ⟨a1, a2⟩ := n4 x hx q g2
                exact ⟨a1, fun t y hy => u3 y (by have := (zp_ed_lt hV hy).2; omega) (a2 t y hy)⟩
              · exact u4 x hx g1 q
            · rcases Nat.lt_or_ge j i with c2 | c2
              · exact u3 _ (by have := zp_way_lt hV hb (show j < zp_w P b by omega); omega) (n5 j c2)
              · rw [show j = i by omega]; exact u5
        · intro fu N ⟨⟨n1, n2, n3, n4⟩, n5⟩
          have hS2 : zt_S N o P := hS1.keepA n1 (fun a h => by unfold zt_A; omega)
          show zh_H (lb_M_isUsedFrom_49 (ff_M_isUsedFrom d) 52 (nI b) (nI v) (lf_M_isUsedFrom_49 (ff_M_isUsedFrom d) 52 (nI b) (nI v) fu) (nI (zp_w P b)) N) _
          unfold lb_M_isUsedFrom_49
          rw [zt_ways hS2 hb, Option.bind_some, if_pos (nI_le (Nat.le_refl _) (by omega))]
          refine zh_some ⟨false, N, rfl, zf_tr f1 n1, (by intro h; cases h), fun _ => ⟨⟨zf_tr f1 n1, n2, fun x hx h => n3 x hx ((s1 x).mpr (Or.inr h)), fun x hx g1 g2 => ?_⟩, n3 b (by omega) ((s1 b).mpr (Or.inl rfl))⟩⟩
          by_cases q : zw_s M1 x
          · rcases (s1 x).mp q with e | e
            · rw [e]
              refine ⟨r1, fun _ y hy => ?_⟩
              obtain ⟨_, k, hk, e2⟩ := (zp_ed_way hV).mp hy
              rw [e2]
              exact n5 k hk
            · exact absurd e g2
          · exact n4 x hx g1 q
    · rw [h1, if_neg (by decide)]
      exact zh_some ⟨false, M, rfl, zf_rfl _ _, (by intro h; cases h), fun _ => ⟨⟨zf_rfl _ _, hB, fun _ _ h => h, fun x _ h1 h2 => absurd h1 h2⟩, h1⟩⟩
theorem zt_liveBehind (h : zt_S M o P) {b v : Nat} (hb : b < zp_nb P) (hv : v < 8) : zt_Q (ff_M_isLiveBehind 52 (nI b) (nI v) M) M (∃ y, zp_ed P b y = true ∧ zp_LB P v y) := by
  have hV := h.2.2.2.2
  have hnb := hV.2.1
  have e52 : (mm_k M 52).1 = 11 := by rw [h.1.1]
  refine zt_Qh ?_
  unfold ff_M_isLiveBehind
  rw [zq_gd e52]
  obtain ⟨M1, e1, f1, g1⟩ := zw_forget h.1
  have h1 : zt_S M1 o P := h.keepA f1 (fun a h => by unfold zt_A; omega)
  rw [e1, Option.bind_some]
  have hw := zp_w_le hV hb
  refine zh_up (F := fun fu i N => lf_M_isLiveBehind_6 52 (nI b) (nI v) fu i N) (zp_w P b) (fun i N => zw_U P v M1 N ∧ ∀ k, k < i → zw_s N (zp_way P b k)) ?_ ?_ fu_L 0 M1 (Nat.zero_le _) (by rw [zs_fuel]; omega) ⟨⟨zf_rfl _ _, fun x hx => Or.inl (g1 x hx), fun _ _ h => h, fun x _ h1 h2 => absurd h1 h2⟩, fun k hk => absurd hk (Nat.not_lt_zero _)⟩
  · intro fu i N hi ⟨⟨n1, n2, n3, n4⟩, n5⟩ k
    have hS2 : zt_S N o P := h1.keepA n1 (fun a h => by unfold zt_A; omega)
    have hq := zp_way_lt hV hb hi
    have hway : zp_ed P b (zp_way P b i) = true := (zp_ed_way hV).mpr ⟨hb, i, hi, rfl⟩
    show zh_H (lb_M_isLiveBehind_6 52 (nI b) (nI v) (lf_M_isLiveBehind_6 52 (nI b) (nI v) fu) (nI i) N) _
    unfold lb_M_isLiveBehind_6
    rw [zt_ways hS2 hb, Option.bind_some, if_neg (nI_ge hi (by omega)), zt_way hS2 hb hi, Option.bind_some]
    obtain ⟨c, N', eN, m1, m2, m3⟩ := zw_used (o := o) hv 13 N (zp_way P b i) hS2 n2 hq (by have := fb_ct_le (fun x => decide (mm_I N 55 x = 0)) 12; unfold zw_c; omega)
    refine zh_at2 eN ?_
    cases c with
    | true =>
      rw [if_neg (by decide)]
      exact zt_Qt (zf_tr (zt_A55 f1) (zf_tr (zt_A55 n1) (zt_A55 m1))) ⟨_, hway, m2 rfl⟩
    | false =>
      obtain ⟨⟨u1, u2, u3, u4⟩, u5⟩ := m3 rfl
      rw [if_pos (by decide), Option.bind_some, nI_1]
      refine k _ ⟨⟨zf_tr n1 m1, u2, fun x hx h => u3 x hx (n3 x hx h), fun x hx g1 g2 => ?_⟩, fun j hj => ?_⟩
      · by_cases q : zw_s N x
        · obtain ⟨a1, a2⟩ := n4 x hx q g2
          exact ⟨a1, fun t y hy => u3 y (by have := (zp_ed_lt hV hy).2; omega) (a2 t y hy)⟩
        · exact u4 x hx g1 q
      · rcases Nat.lt_or_ge j i with c2 | c2
        · exact u3 _ (by have := zp_way_lt hV hb (show j < zp_w P b by omega); omega) (n5 j c2)
        · rw [show j = i by omega]; exact u5
  · intro fu N ⟨⟨n1, n2, n3, n4⟩, n5⟩
    have hS2 : zt_S N o P := h1.keepA n1 (fun a h => by unfold zt_A; omega)
    show zh_H (lb_M_isLiveBehind_6 52 (nI b) (nI v) (lf_M_isLiveBehind_6 52 (nI b) (nI v) fu) (nI (zp_w P b)) N) _
    unfold lb_M_isLiveBehind_6
    rw [zt_ways hS2 hb, Option.bind_some, if_pos (nI_le (Nat.le_refl _) (by omega))]
    refine zt_Qf (zf_tr (zt_A55 f1) (zt_A55 n1)) ?_
    rintro ⟨y, hy, hl⟩
    have hno : ∀ x, x < zp_nb P → zw_s N x → ¬ zp_fu P x (zp_st P x) v ∧ (zp_ft P x (zp_st P x) v → ∀ y, zp_ed P x y = true → zw_s N y) := fun x hx q => n4 x hx q (fun z => by unfold zw_s at z; rw [g1 x (by omega)] at z; exact absurd z (by decide))
    have key : ¬ zw_s N y := by
      refine zs_ind (S := fun y => ¬ zw_s N y) (fun x hx q => (hno x hx.1 q).1 hx.2) (fun y x _ ih e q => ?_) hl
      exact ih ((hno x (zp_ed_lt hV e.1).1 q).2 e.2 y e.1)
    obtain ⟨_, k, hk, e2⟩ := (zp_ed_way hV).mp hy
    exact key (by rw [e2]; exact n5 k hk)
theorem zt_liveAt1 (h : zt_S M o P) {b k v : Nat} (hb : b < zp_nb P) (h1 : zp_st P b ≤ k) (h2 : k ≤ zp_st P (b + 1)) (hv : v < 8) : zt_Q (ff_M_isLiveAt 52 (nI b) (nI k) (nI v) M) M (zp_LV P v (zp_pl P b k)) := by
  have hV := h.2.2.2.2
  have e52 : (mm_k M 52).1 = 11 := by rw [h.1.1]
  have key := zp_LV_iff hV hv hb h1 h2
  refine zt_Qiff key.symm (zt_Qh ?_)
  unfold ff_M_isLiveAt
  obtain ⟨r, er, hr⟩ := zt_fate h hb h1 h2 hv
  rw [zq_gd e52, er, Option.bind_some]
  rcases hr with ⟨rfl, r1⟩ | ⟨rfl, r1, r2⟩ | ⟨rfl, r1, r2⟩
  · rw [if_neg (by decide), if_pos rfl]
    exact zt_Qt (zf_rfl _ _) (Or.inl r1)
  · rw [if_neg (by decide), if_neg (by decide)]
    exact zt_Qf (zf_rfl _ _) (fun q => q.elim r1 (fun q => r2 q.1))
  · rw [if_pos rfl]
    refine zt_Qbd (zt_liveBehind h hb hv) (fun N f q => ?_) (fun N f q => ?_)
    · rw [zb_Z1, Option.bind_some]
      exact zt_Qt f (Or.inr ⟨r2, q⟩)
    · rw [zb_Z0, Option.bind_some]
      exact zt_Qf f (fun z => z.elim r1 (fun z => q z.2))
/-- how many are live at a place -/
noncomputable def zp_ln (P : zp_T) (p : Nat) : Nat := fb_ct (fun v => zp_b (zp_LV P v p)) 8
theorem zt_one (b : Bool) (M : mm_T) : ff_M_one (zb_B b) M = some (nI (if b then 1 else 0)) := by
  unfold ff_M_one
  cases b
  · rw [if_pos (by decide)]; rfl
  · rw [if_neg (by decide)]; rfl
theorem zt_liveAt (h : zt_S M o P) {b k : Nat} (hb : b < zp_nb P) (h1 : zp_st P b ≤ k) (h2 : k ≤ zp_st P (b + 1)) : ∃ M', ff_M_liveAt 52 (nI b) (nI k) M = some (nI (zp_ln P (zp_pl P b k)), M') ∧ zf_F M M' zt_A := by
  have e52 : (mm_k M 52).1 = 11 := by rw [h.1.1]
  suffices goal : zh_H (ff_M_liveAt 52 (nI b) (nI k) M) (fun y => ∃ M', y = (nI (zp_ln P (zp_pl P b k)), M') ∧ zf_F M M' zt_A) by
    obtain ⟨y, e, M', rfl, g⟩ := goal
    exact ⟨M', e, g⟩
  unfold ff_M_liveAt
  rw [zq_gd e52]
  refine zh_up (F := fun fu i (s : Int32 × mm_T) => lf_M_liveAt_5 52 (nI b) (nI k) fu s.1 i s.2) 8 (fun i s => s.1 = nI (fb_ct (fun v => zp_b (zp_LV P v (zp_pl P b k))) i) ∧ zf_F M s.2 zt_A) ?_ ?_ fu_L 0 (0, M) (Nat.zero_le _) (by rw [zs_fuel]; omega) ⟨rfl, zf_rfl _ _⟩
  · intro fu i s hi ⟨g1, g2⟩ kk
    obtain ⟨x, N⟩ := s
    simp only at g1 g2
    have hS : zt_S N o P := h.keepA g2 (fun a h => h)
    show zh_H (lb_M_liveAt_5 52 (nI b) (nI k) (lf_M_liveAt_5 52 (nI b) (nI k) fu) x (nI i) N) _
    unfold lb_M_liveAt_5
    rw [if_neg (show ¬ (8 : Int32) ≤ nI i from nI_ge (b := 8) hi (by omega))]
    obtain ⟨c, N', eN, fN, hc⟩ := zt_liveAt1 hS hb h1 h2 (show i < 8 by omega)
    refine zh_at2 eN ?_
    rw [zt_one, Option.bind_some, Option.bind_some, Option.bind_some, nI_1, g1, nI_add]
    refine kk (_, N') ⟨?_, zf_tr g2 fN⟩
    rw [fb_ct_succ, zp_b_eq hc]
    rfl
  · intro fu s ⟨g1, g2⟩
    obtain ⟨x, N⟩ := s
    simp only at g1 g2
    show zh_H (lb_M_liveAt_5 52 (nI b) (nI k) (lf_M_liveAt_5 52 (nI b) (nI k) fu) x (nI 8) N) _
    unfold lb_M_liveAt_5
    rw [if_pos (show (8 : Int32) ≤ nI 8 from nI_le (a := 8) (Nat.le_refl _) (by omega)), g1]
    exact zh_some ⟨N, rfl, g2⟩
def zp_DD (P : zp_T) (i : Nat) : Prop := ∃ t, zp_df P i = some t ∧ ¬ zp_LV P t (zp_pl P (zp_bk P i) (i + 1))
theorem zt_isDead0 (h : zt_S M o P) {i : Nat} (hi : i < zp_ni P) : zt_Q (ff_M_isDead0 52 (nI i) M) M (zp_DD P i) := by
  have hV := h.2.2.2.2
  have e52 : (mm_k M 52).1 = 11 := by rw [h.1.1]
  have hdf := zt_df h hi
  refine zt_Qh ?_
  unfold ff_M_isDead0
  rw [zq_gd e52, zt_isDef h hi, Option.bind_some]
  by_cases c : zp_k P i = 3
  · rw [if_pos (by simp [c, zb_B])]
    refine zt_Qf (zf_rfl _ _) ?_
    rintro ⟨t, e, _⟩
    rw [hdf, if_neg (fun q => q c)] at e
    cases e
  · rw [if_neg (by simp [c, zb_B]), zt_blockAt h hi, Option.bind_some, zt_t h hi, Option.bind_some, nI_1]
    rw [if_pos c] at hdf
    have ht : zp_t P i < 8 := zp_df_lt hV (Or.inl hi) hdf
    have hbl := zp_bk_lt hV hi
    have hlo := zp_bk_lo hV hi
    have hhi := zp_bk_hi hV hi
    refine zt_Qbd (zt_liveAt1 h hbl (k := i + 1) (by omega) (by omega) ht) (fun N f q => ?_) (fun N f q => ?_)
    · rw [if_neg (by decide)]
      refine zt_Qf f ?_
      rintro ⟨t, e, z⟩
      rw [hdf] at e
      cases e
      exact z q
    · rw [if_pos rfl]
      exact zt_Qt f ⟨_, hdf, q⟩
end ZR3
