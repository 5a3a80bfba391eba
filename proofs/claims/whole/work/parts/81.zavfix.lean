/-! ===== the class: Available, the rounds ===== -/
def zv_mu (N : mm_T) : Nat := fb_ct (fun x => bl (mm_J N 34 (x / 64)) (x % 64)) 3328
def zv_Inv (M : mm_T) (P : zp_T) (N : mm_T) : Prop := zf_F M N (fun x => x = 34) ∧ (∀ p, p < 52 → ∀ n, n < 64 → zp_AL P n p → bl (mm_J N 34 p) n = true) ∧ (∀ p, p < 52 → ¬ zp_OP P p → mm_J N 34 p = 0) ∧ mm_J N 34 (zp_fp P 0) = 0
/-- what leaves a point -/
def zv_X1 (N : mm_T) (P : zp_T) (p : Nat) : Int64 := if p < 40 ∧ zp_k P p = 2 then mm_J N 34 p ||| jo_shl 1 (nI (zp_nm P p)) else mm_J N 34 p
def zv_X (N : mm_T) (P : zp_T) (p : Nat) : Int64 := match zp_df P p with
  | none => zv_X1 N P p
  | some v => zv_X1 N P p &&& (mm_J N 33 v ^^^ (-1))
def zv_St (P : zp_T) (p : Nat) (N : mm_T) : Prop := zp_OP P p → ∀ k, k < zp_nc P p → mm_J N 34 (zp_nx P p k) &&& zv_X N P p = mm_J N 34 (zp_nx P p k)
theorem zv_Xbit {N : mm_T} {P : zp_T} (hV : zp_V P) (hn : zv_N P (zp_ni P) N) {p : Nat} (hp : zp_pt P p) {n : Nat} (h64 : n < 64) : bl (zv_X N P p) n = true ↔ (bl (mm_J N 34 p) n = true ∨ zp_GN P p n) ∧ ¬ zp_KL P p n := by
  have h1 : bl (zv_X1 N P p) n = true ↔ (bl (mm_J N 34 p) n = true ∨ zp_GN P p n) := by
    unfold zv_X1 zp_GN
    by_cases c : p < 40 ∧ zp_k P p = 2
    · have hni := hV.2.2.1
      have hi : p < zp_ni P := by rcases hp with q | q <;> omega
      have := zp_nm_self hi c.2
      rw [if_pos c, zl_or, Bool.or_eq_true, zl_one _ (by omega), decide_eq_true_eq]
      exact or_congr Iff.rfl ⟨fun q => ⟨hi, c.2, q.symm⟩, fun q => q.2.2.symm⟩
    · have hni := hV.2.2.1
      rw [if_neg c]
      exact ⟨Or.inl, fun q => q.elim id (fun q => absurd ⟨by omega, q.2.1⟩ c)⟩
  unfold zv_X zp_KL
  cases e : zp_df P p with
  | none => rw [h1]; simp
  | some v =>
    have hv := zp_df_lt hV hp e
    simp only
    rw [zl_and, zl_not _ h64, Bool.and_eq_true, Bool.not_eq_true', h1]
    refine and_congr_right (fun _ => ?_)
    have h2 := hn.2 v hv n h64
    constructor
    · rintro q ⟨w, q1, q2⟩
      cases q1
      rw [h2.mpr q2] at q
      cases q
    · intro q
      cases e2 : bl (mm_J N 33 v) n with
      | false => rfl
      | true => exact absurd ⟨v, rfl, h2.mp e2⟩ q
/-- what is available goes on -/
theorem zv_pass {M N : mm_T} {P : zp_T} (hV : zp_V P) (hn : zv_N P (zp_ni P) N) (hI : zv_Inv M P N) {p q : Nat} (hp : zp_OP P p) (hs : zp_sc P p q) {n : Nat} (h64 : n < 64) (h : zp_AL P n q) : bl (zv_X N P p) n = true := by
  rw [zv_Xbit hV hn hp.1 h64]
  have hk : ¬ zp_KL P p n := fun hk => h.2 (zs_in (Or.inr ⟨p, hp, hs, hk⟩))
  refine ⟨?_, hk⟩
  by_cases g : zp_GN P p n
  · exact Or.inr g
  · refine Or.inl (hI.2.1 p (zp_pt_lt hV hp.1) n h64 ⟨hp, fun hl => h.2 (zs_go hl ⟨hs, g⟩)⟩)
theorem zv_flow {M N : mm_T} {P : zp_T} (hA : zk_A M) (hP : zo_P M 45) (hH : zo_H M 45 P) (hV : zp_V P) (hn : zv_N P (zp_ni P) M) (hI : zv_Inv M P N) {p : Nat} (hp : zp_OP P p) : ∃ (c : Bool) (N' : mm_T), ff_A_flow 31 45 (nI p) N = some (zb_B c, N') ∧ zv_Inv M P N' ∧ (c = true → zv_mu N' < zv_mu N) ∧ (c = false → N' = N ∧ zv_St P p N) := by
  have hp52 := zp_pt_lt hV hp.1
  have hni := hV.2.2.1
  have keep : ∀ {N}, zf_F M N (fun x => x = 34) → zk_A N ∧ zo_P N 45 ∧ zo_H N 45 P ∧ zv_N P (zp_ni P) N := fun {N} h => ⟨hA.keep h, hP.keep h, hH.keep (fun a q1 q2 k => zf_i h (by omega) k), fun i hi => by rw [zf_i h (by omega)]; exact hn.1 i hi, fun v hv m hm => by rw [zf_j h (by omega)]; exact hn.2 v hv m hm⟩
  obtain ⟨hA1, hP1, hH1, hn1⟩ := keep hI.1
  have e31 : (mm_k N 31).1 = 0 := by rw [hA1.1]
  have run : ∀ N1, zv_Inv M P N1 → N1 = N → zh_H (lf_A_flow_66 31 45 (nI p) (zv_X N P p) fu_L 0 0 N1) (fun y => ∃ (c : Bool) (N' : mm_T), y = (zb_B c, N') ∧ zv_Inv M P N' ∧ (c = true → zv_mu N' < zv_mu N) ∧ (c = false → N' = N ∧ zv_St P p N)) := by
    intro N1 hI1 hN1
    have hnc := zp_nc_le hV hp.1
    refine zh_up (F := fun fu i (s : Int32 × mm_T) => lf_A_flow_66 31 45 (nI p) (zv_X N P p) fu s.1 i s.2) (zp_nc P p) (fun i s => ∃ c : Bool, s.1 = zb_B c ∧ zv_Inv M P s.2 ∧ zv_mu s.2 ≤ zv_mu N ∧ (c = true → zv_mu s.2 < zv_mu N) ∧ (c = false → s.2 = N ∧ ∀ k, k < i → mm_J N 34 (zp_nx P p k) &&& zv_X N P p = mm_J N 34 (zp_nx P p k))) ?_ ?_ fu_L 0 (0, N1) (Nat.zero_le _) (by rw [zs_fuel]; omega) ⟨false, rfl, hI1, by rw [hN1]; exact Nat.le_refl _, (by intro h; cases h), fun _ => ⟨hN1, fun k hk => absurd hk (Nat.not_lt_zero _)⟩⟩
    · intro fu i s hi ⟨c, hs1, hs2, hs3, hs4, hs5⟩ k
      obtain ⟨q6, N2⟩ := s
      simp only at hs1 hs2 hs3 hs4 hs5
      obtain ⟨hA2, hP2, hH2, hn2⟩ := keep hs2.1
      have e31 : (mm_k N2 31).1 = 0 := by rw [hA2.1]
      have hsc : zp_sc P p (zp_nx P p i) := ⟨hp.1, i, hi, rfl⟩
      have hq := zp_pt_lt hV (zp_sc_pt hV hsc)
      show zh_H (lb_A_flow_66 31 45 (nI p) (zv_X N P p) (lf_A_flow_66 31 45 (nI p) (zv_X N P p) fu) q6 (nI i) N2) _
      unfold lb_A_flow_66
      rw [zr_nextCount hP2 hH2 hV hp.1, Option.bind_some, if_neg (nI_ge hi (by omega)), zr_nextPoint hP2 hH2 hV hp.1 hi, Option.bind_some]
      simp only [zg_R e31, Option.bind_some, hA2.2.1.2.2, zd_atL hA2.2.2.2.2 hq (by omega), zd_putL hA2.2.2.2.2 hq (by omega), zq_jp, zd_cmp, nI_1]
      -- the memory behind the store
      have hInv : zv_Inv M P (mm_sJ N2 34 (zp_nx P p i) (mm_J N2 34 (zp_nx P p i) &&& zv_X N P p)) := by
        refine ⟨zf_tr hs2.1 (zf_J (A := fun x => x = 34) rfl _ _), fun p' hp' n h64 ha => ?_, fun p' hp' hno => ?_, ?_⟩
        · rw [zm_JJ]
          by_cases e : p' = zp_nx P p i
          · subst e
            rw [if_pos ⟨rfl, rfl⟩, zl_and, hs2.2.1 _ hp' n h64 ha, zv_pass hV hn1 hI hp hsc h64 ha]
            rfl
          · rw [if_neg (fun q => e q.2)]
            exact hs2.2.1 p' hp' n h64 ha
        · rw [zm_JJ]
          by_cases e : p' = zp_nx P p i
          · subst e
            exact absurd (zp_OP_sc hV hp hsc) hno
          · rw [if_neg (fun q => e q.2)]
            exact hs2.2.2.1 p' hp' hno
        · rw [zm_JJ]
          by_cases e : zp_fp P 0 = zp_nx P p i
          · rw [if_pos ⟨rfl, e⟩, ← e, hs2.2.2.2]
            refine zl_ext (fun j hj => ?_)
            rw [zl_and, zl_0]
            rfl
          · rw [if_neg (fun q => e q.2)]
            exact hs2.2.2.2
      have sub : ∀ x, bl (mm_J (mm_sJ N2 34 (zp_nx P p i) (mm_J N2 34 (zp_nx P p i) &&& zv_X N P p)) 34 (x / 64)) (x % 64) = true → bl (mm_J N2 34 (x / 64)) (x % 64) = true := by
        intro x hx
        rw [zm_JJ] at hx
        split at hx
        · rename_i q
          rw [zl_and, Bool.and_eq_true] at hx
          rw [q.2]
          exact hx.1
        · exact hx
      by_cases cc : mm_J N2 34 (zp_nx P p i) &&& zv_X N P p = mm_J N2 34 (zp_nx P p i)
      · have same : mm_sJ N2 34 (zp_nx P p i) (mm_J N2 34 (zp_nx P p i) &&& zv_X N P p) = N2 := by rw [cc, zm_sameJ]
        have fin : zh_H (lf_A_flow_66 31 45 (nI p) (zv_X N P p) fu (zb_B c) (nI (i + 1)) N2) (fun y => ∃ (c : Bool) (N' : mm_T), y = (zb_B c, N') ∧ zv_Inv M P N' ∧ (c = true → zv_mu N' < zv_mu N) ∧ (c = false → N' = N ∧ zv_St P p N)) := by
          refine k (zb_B c, N2) ⟨c, rfl, hs2, hs3, hs4, fun hc => ?_⟩
          obtain ⟨a1, a2⟩ := hs5 hc
          refine ⟨a1, fun j hj => ?_⟩
          rcases Nat.lt_or_ge j i with c2 | c2
          · exact a2 j c2
          · rw [show j = i by omega]; rw [a1] at cc; exact cc
        rw [same, hs1]
        cases c with
        | false => rw [if_pos (by decide), if_pos cc]; exact fin
        | true => rw [if_neg (by decide)]; exact fin
      · have hlt : zv_mu (mm_sJ N2 34 (zp_nx P p i) (mm_J N2 34 (zp_nx P p i) &&& zv_X N P p)) < zv_mu N2 := by
          have : ∃ j, j < 64 ∧ ¬ bl (mm_J N2 34 (zp_nx P p i) &&& zv_X N P p) j = bl (mm_J N2 34 (zp_nx P p i)) j := by
            refine Classical.byContradiction fun hn => cc (zl_ext fun j hj => ?_)
            exact Classical.byContradiction fun h3 => hn ⟨j, hj, h3⟩
          obtain ⟨j, hj, h3⟩ := this
          have e1 : (zp_nx P p i * 64 + j) / 64 = zp_nx P p i := by omega
          have e2 : (zp_nx P p i * 64 + j) % 64 = j := by omega
          have h5 : bl (mm_J N2 34 (zp_nx P p i)) j = true := by
            cases e : bl (mm_J N2 34 (zp_nx P p i)) j with
            | true => rfl
            | false => rw [zl_and, e] at h3; exact absurd rfl h3
          have h4 : bl (mm_J N2 34 (zp_nx P p i) &&& zv_X N P p) j = false := by
            cases e : bl (mm_J N2 34 (zp_nx P p i) &&& zv_X N P p) j with
            | false => rfl
            | true => rw [e, h5] at h3; exact absurd rfl h3
          exact zs_ctlt (x := zp_nx P p i * 64 + j) (fun y _ hy => sub y hy) (by omega) (by rw [e1, e2, zm_JJ, if_pos ⟨rfl, rfl⟩]; exact h4) (by rw [e1, e2]; exact h5)
        have fin : zh_H (lf_A_flow_66 31 45 (nI p) (zv_X N P p) fu 1 (nI (i + 1)) (mm_sJ N2 34 (zp_nx P p i) (mm_J N2 34 (zp_nx P p i) &&& zv_X N P p))) (fun y => ∃ (c : Bool) (N' : mm_T), y = (zb_B c, N') ∧ zv_Inv M P N' ∧ (c = true → zv_mu N' < zv_mu N) ∧ (c = false → N' = N ∧ zv_St P p N)) :=
          k (1, _) ⟨true, rfl, hInv, Nat.le_trans (Nat.le_of_lt hlt) hs3, fun _ => Nat.lt_of_lt_of_le hlt hs3, by intro h; cases h⟩
        rw [hs1]
        cases c with
        | false => rw [if_pos (by decide), if_neg cc]; exact fin
        | true => rw [if_neg (by decide)]; exact fin
    · intro fu s ⟨c, hs1, hs2, hs3, hs4, hs5⟩
      obtain ⟨q6, N2⟩ := s
      simp only at hs1 hs2 hs3 hs4 hs5
      obtain ⟨hA2, hP2, hH2, hn2⟩ := keep hs2.1
      show zh_H (lb_A_flow_66 31 45 (nI p) (zv_X N P p) (lf_A_flow_66 31 45 (nI p) (zv_X N P p) fu) q6 (nI (zp_nc P p)) N2) _
      unfold lb_A_flow_66
      rw [zr_nextCount hP2 hH2 hV hp.1, Option.bind_some, if_pos (nI_le (Nat.le_refl _) (by omega)), hs1, zb_Zok, Option.bind_some]
      exact zh_some ⟨c, N2, rfl, hs2, hs4, fun hc => ⟨(hs5 hc).1, fun _ k hk => (hs5 hc).2 k hk⟩⟩
  have goal : zh_H (ff_A_flow 31 45 (nI p) N) (fun y => ∃ (c : Bool) (N' : mm_T), y = (zb_B c, N') ∧ zv_Inv M P N' ∧ (c = true → zv_mu N' < zv_mu N) ∧ (c = false → N' = N ∧ zv_St P p N)) := by
    have r := run N hI rfl
    have tail : ∀ y, y = zv_X1 N P p → zh_H ((ff_P_definedAt 45 (nI p) N).bind fun x5 => jp_J (α := Int64 → Option (Int32 × mm_T)) (fun (x6 : Int64) => lf_A_flow_66 31 45 (nI p) x6 fu_L (0 : Int32) (0 : Int32) N) fun j60 => if x5 = (-1 : Int32) then (j60 y) else ((gf_R N 31 0 2).bind fun x17 => (ff_D_at_b x17 x5 N).bind fun x18 => (some (y &&& (x18 ^^^ (-1 : Int64)))).bind fun x19 => j60 x19)) (fun y => ∃ (c : Bool) (N' : mm_T), y = (zb_B c, N') ∧ zv_Inv M P N' ∧ (c = true → zv_mu N' < zv_mu N) ∧ (c = false → N' = N ∧ zv_St P p N)) := by
      rintro y rfl
      rw [zr_definedAt hP1 hH1 hV hp.1, Option.bind_some, zq_jp]
      unfold zv_X at r
      cases e : zp_df P p with
      | none =>
        rw [e] at r
        rw [if_pos zo_none]
        exact r
      | some v =>
        rw [e] at r
        have hv := zp_df_lt hV hp.1 e
        rw [zo_some, if_neg (zi_n1 (by omega)), zg_R e31, Option.bind_some, hA1.2.1.2.1, zd_atL hA1.2.2.2.1 hv (by omega), Option.bind_some, Option.bind_some]
        exact r
    unfold ff_A_flow
    rw [zq_gd e31, zg_R e31, Option.bind_some, hA1.2.1.2.2, zd_atL hA1.2.2.2.2 hp52 (by omega), Option.bind_some, zr_kindAt hP1 hH1 hV hp.1, Option.bind_some, zq_jp]
    by_cases c : p < 40
    · have hi : p < zp_ni P := by rcases hp.1 with q | q <;> omega
      have hk3 : zp_k P p ≤ 3 := (hV.2.2.2.2.2.2.2 p hi).1
      rw [if_pos c]
      by_cases c2 : zp_k P p = 2
      · rw [if_pos (show nI (zp_k P p) = (2 : Int32) by rw [c2]; rfl), zg_R e31, Option.bind_some, hA1.2.1.1, zd_at hA1.2.2.1 c (by omega), Option.bind_some, Option.bind_some]
        refine tail _ ?_
        unfold zv_X1
        rw [if_pos ⟨c, c2⟩, hn1.1 p c, if_pos ⟨hi, c2⟩]
      · rw [if_neg (show ¬ nI (zp_k P p) = (2 : Int32) from fun h => c2 ((nI_eq (b := 2) (by omega) (by omega)).mp h))]
        refine tail _ ?_
        unfold zv_X1
        rw [if_neg (fun q => c2 q.2)]
    · rw [if_neg c, if_neg (by decide)]
      refine tail _ ?_
      unfold zv_X1
      rw [if_neg (fun q => c q.1)]
  obtain ⟨y, e, c, N', rfl, h⟩ := goal
  exact ⟨c, N', e, h⟩
theorem zv_all {M N : mm_T} {P : zp_T} (hV : zp_V P) (hn : zv_N P (zp_ni P) N) (hI : zv_Inv M P N) (hS : ∀ p, p < 52 → zv_St P p N) {p : Nat} (hp : p < 52) {n : Nat} (h64 : n < 64) : bl (mm_J N 34 p) n = true ↔ zp_AL P n p := by
  refine ⟨fun h => ?_, hI.2.1 p hp n h64⟩
  have ho : zp_OP P p := Classical.byContradiction fun hno => by rw [hI.2.2.1 p hp hno, zl_0] at h; cases h
  refine ⟨ho, fun hl => ?_⟩
  have step : ∀ p q, zp_OP P p → zp_sc P p q → bl (zv_X N P p) n = false → bl (mm_J N 34 q) n = false := by
    rintro p q hp ⟨_, k, hk, rfl⟩ hx
    have := hS p (zp_pt_lt hV hp.1) hp k hk
    rw [← this, zl_and, hx, Bool.and_false]
  have key : ∀ x, zp_LK P n x → bl (mm_J N 34 x) n = false := by
    refine fun x hx => zs_ind (S := fun x => bl (mm_J N 34 x) n = false) (fun q hq => ?_) (fun p q hp ih e => ?_) hx
    · rcases hq with rfl | ⟨p, h1, h2, h3⟩
      · rw [hI.2.2.2, zl_0]
      · refine step p q h1 h2 ?_
        cases e : bl (zv_X N P p) n with
        | false => rfl
        | true => exact absurd h3 ((zv_Xbit hV hn h1.1 h64).mp e).2
    · have hop := zp_LK_OP hV hp
      refine step p q hop e.1 ?_
      cases e2 : bl (zv_X N P p) n with
      | false => rfl
      | true =>
        rcases ((zv_Xbit hV hn hop.1 h64).mp e2).1 with q2 | q2
        · rw [ih] at q2; cases q2
        · exact absurd q2 e.2
  rw [key p hl] at h
  cases h
theorem zv_analyse {M : mm_T} {P : zp_T} (hA : zk_A M) (hG : zk_G M) (hP : zo_P M 45) (hH : zo_H M 45 P) (hV : zp_V P) (hg : zd_G M P) : ∃ M', ff_A_analyse 31 45 18 M = some M' ∧ zf_F M M' zv_A ∧ zd_V M' P ∧ mm_I M' 31 0 = 1 := by
  have hnb := hV.2.1
  have hni := hV.2.2.1
  have e31 : (mm_k M 31).1 = 0 := by rw [hA.1]
  unfold ff_A_analyse
  rw [zq_gd e31]
  obtain ⟨M1, e1, f1, n1⟩ := zv_names hA hP hH hV
  rw [e1, Option.bind_some]
  have keep : ∀ {N}, zf_F M N (fun x => x = 32 ∨ x = 33 ∨ x = 34) → zk_A N ∧ zk_G N ∧ zo_P N 45 ∧ zo_H N 45 P ∧ ∀ b, b < 32 → (bt (mm_I N 18 1) b = true ↔ zp_RB P b) := fun {N} h => ⟨hA.keep h, hG.keep h, hP.keep h, hH.keep (fun a q1 q2 k => zf_i h (by omega) k), fun b hb => by rw [zf_i h (by omega)]; exact hg.1.2 b hb⟩
  have f1' : zf_F M M1 (fun x => x = 32 ∨ x = 33 ∨ x = 34) := zf_mono f1 (fun a h => by omega)
  have bpl : ∀ p, zp_pt P p → zp_bp P p < 12 := fun p hp => by have := zp_bp_lt hV hp; omega
  refine zh_up (F := fun fu i N => lf_A_analyse_7 _ 31 45 18 fu i N) (Q := fun M' => zf_F M M' zv_A ∧ zd_V M' P ∧ mm_I M' 31 0 = 1) 52 (fun i N => zf_F M1 N (fun x => x = 34) ∧ ∀ p, p < i → (zp_OP P p → mm_J N 34 p = -1) ∧ (¬ zp_OP P p → mm_J N 34 p = 0)) ?_ ?_ fu_L 0 M1 (Nat.zero_le _) (by rw [zs_fuel]; omega) ⟨zf_rfl _ _, fun p hp => absurd hp (Nat.not_lt_zero _)⟩
  · intro fu i N hi ⟨h1, h2⟩ k
    obtain ⟨hA', hG', hP', hH', hr'⟩ := keep (zf_tr f1' (zf_mono h1 (fun a h => by omega)))
    have e31 : (mm_k N 31).1 = 0 := by rw [hA'.1]
    show zh_H (lb_A_analyse_7 _ 31 45 18 (lf_A_analyse_7 _ 31 45 18 fu) (nI i) N) _
    unfold lb_A_analyse_7
    rw [if_neg (show ¬ (52 : Int32) ≤ nI i from nI_ge (b := 52) hi (by omega)), zr_hasPoint hP' hH' hV hi, Option.bind_some]
    simp only [zq_jp, zb_0, zg_R e31, Option.bind_some, hA'.2.1.2.2, zd_putL hA'.2.2.2.2 hi (by omega), nI_1]
    have fin : ∀ v : Int64, ((zp_OP P i → v = -1) ∧ (¬ zp_OP P i → v = 0)) → ∀ p, p < i + 1 → (zp_OP P p → mm_J (mm_sJ N 34 i v) 34 p = -1) ∧ (¬ zp_OP P p → mm_J (mm_sJ N 34 i v) 34 p = 0) := by
      intro v hv p hp
      rw [zm_JJ]
      by_cases c : p = i
      · rw [if_pos ⟨rfl, c⟩, c]; exact hv
      · rw [if_neg (fun q => c q.2)]; exact h2 p (by omega)
    cases e : zp_ptb P i with
    | false =>
      rw [if_pos rfl, if_pos trivial]
      refine k _ ⟨zf_tr h1 (zf_J (A := fun x => x = 34) rfl _ _), fin 0 ⟨fun q => ?_, fun _ => rfl⟩⟩
      rw [zp_ptb_iff.mpr q.1] at e
      cases e
    | true =>
      have hpt := zp_ptb_iff.mp e
      have hbl := bpl i hpt
      rw [if_neg (by simp)]
      simp only [zr_blockAt hP' hH' hV hpt, Option.bind_some, zg_isReached hG' (show zp_bp P i < 32 by omega), zb_0]
      cases e2 : bt (mm_I N 18 1) (zp_bp P i) with
      | false =>
        rw [if_pos rfl, if_pos trivial]
        refine k _ ⟨zf_tr h1 (zf_J (A := fun x => x = 34) rfl _ _), fin 0 ⟨fun q => ?_, fun _ => rfl⟩⟩
        rw [(hr' _ (by omega)).mpr q.2] at e2
        cases e2
      | true =>
        rw [if_neg (by simp), if_neg (by decide)]
        refine k _ ⟨zf_tr h1 (zf_J (A := fun x => x = 34) rfl _ _), fin (-1) ⟨fun _ => rfl, fun q => ?_⟩⟩
        exact absurd ⟨hpt, (hr' _ (by omega)).mp e2⟩ q
  · intro fu N ⟨h1, h2⟩
    have h1' := zf_tr f1' (zf_mono (B := fun x => x = 32 ∨ x = 33 ∨ x = 34) h1 (fun a h => by omega))
    obtain ⟨hA', hG', hP', hH', hr'⟩ := keep h1'
    have e31 : (mm_k N 31).1 = 0 := by rw [hA'.1]
    show zh_H (lb_A_analyse_7 _ 31 45 18 (lf_A_analyse_7 _ 31 45 18 fu) (nI 52) N) _
    unfold lb_A_analyse_7
    rw [if_pos (show (52 : Int32) ≤ nI 52 from nI_le (a := 52) (Nat.le_refl _) (by omega))]
    dsimp only
    have hb0 : 0 < zp_nb P := hV.1
    have hfp := zp_pt_lt hV (zp_fp_pt hV hb0)
    rw [zg_R e31, Option.bind_some, hA'.2.1.2.2, show (0 : Int32) = nI 0 from rfl, zr_firstPoint hP' hH' hV hb0, Option.bind_some, zd_putL hA'.2.2.2.2 hfp (by omega), Option.bind_some]
    have hn0 : zv_N P (zp_ni P) (mm_sJ N 34 (zp_fp P 0) 0) := ⟨fun i hi => by rw [zm_IJ, zf_i h1 (by omega)]; exact n1.1 i hi, fun v hv m hm => by rw [zm_JJ, if_neg (by omega), zf_j h1 (by omega)]; exact n1.2 v hv m hm⟩
    have f0 : zf_F M (mm_sJ N 34 (zp_fp P 0) 0) (fun x => x = 32 ∨ x = 33 ∨ x = 34) := zf_tr h1' (zf_J (by omega) _ _)
    obtain ⟨hA0, hG0, hP0, hH0, hr0⟩ := keep f0
    have hI0 : zv_Inv (mm_sJ N 34 (zp_fp P 0) 0) P (mm_sJ N 34 (zp_fp P 0) 0) := by
      refine ⟨zf_rfl _ _, fun p hp n h64 ha => ?_, fun p hp hno => ?_, by rw [zm_JJ, if_pos ⟨rfl, rfl⟩]⟩
      · rw [zm_JJ]
        by_cases c : p = zp_fp P 0
        · exact absurd (zs_in (Or.inl c)) ha.2
        · rw [if_neg (fun q => c q.2), (h2 p hp).1 ha.1, zl_m1 h64]
      · rw [zm_JJ]
        by_cases c : p = zp_fp P 0
        · rw [if_pos ⟨rfl, c⟩]
        · rw [if_neg (fun q => c q.2)]
          exact (h2 p hp).2 hno
    generalize mm_sJ N 34 (zp_fp P 0) 0 = M0 at *
    have keep0 : ∀ {N}, zf_F M0 N (fun x => x = 34) → zk_A N ∧ zk_G N ∧ zo_P N 45 ∧ zo_H N 45 P ∧ zv_N P (zp_ni P) N ∧ ∀ b, b < 32 → (bt (mm_I N 18 1) b = true ↔ zp_RB P b) := fun {N} h => ⟨hA0.keep h, hG0.keep h, hP0.keep h, hH0.keep (fun a q1 q2 k => zf_i h (by omega) k), ⟨fun i hi => by rw [zf_i h (by omega)]; exact hn0.1 i hi, fun v hv m hm => by rw [zf_j h (by omega)]; exact hn0.2 v hv m hm⟩, fun b hb => by rw [zf_i h (by omega)]; exact hr0 b hb⟩
    refine zs_fix (Fin := fun r cont fu q i N => lf_A_analyse_100 cont 31 45 18 (nI r) fu q (nI i) N) (Fout := fun fu q r N => lf_A_analyse_84 (fun (M8 : mm_T) => (pf_Z M8 31 0 0 (1 : Int32)).bind fun M9 => some M9) 31 45 18 fu q (nI r) N) (k0 := fun (M8 : mm_T) => (pf_Z M8 31 0 0 (1 : Int32)).bind fun M9 => some M9) (Q := fun M' => zf_F M M' zv_A ∧ zd_V M' P ∧ mm_I M' 31 0 = 1) 52 3328 (zv_Inv M0 P) (zv_St P) zv_mu (fun i N c N' => zv_Inv M0 P N' ∧ (c = true → zv_mu N' < zv_mu N) ∧ (c = false → N' = N ∧ zv_St P i N)) ?_ ?_ ?_ ?_ ?_ (by rw [zs_fuel]; omega) (by omega) ?_ fu_L 0 _ hI0 (by rw [Nat.zero_add]; exact fb_ct_le _ _) (by rw [zs_fuel]; omega)
    · intro r cont fu q i N hi hI k
      obtain ⟨hA', hG', hP', hH', hn', hr'⟩ := keep0 hI.1
      show zh_H (lb_A_analyse_100 cont 31 45 18 (nI r) (lf_A_analyse_100 cont 31 45 18 (nI r) fu) q (nI i) N) _
      unfold lb_A_analyse_100
      rw [if_neg (show ¬ (52 : Int32) ≤ nI i from nI_ge (b := 52) hi (by omega)), zr_hasPoint hP' hH' hV hi, Option.bind_some, zq_jp]
      have no : ¬ zp_OP P i → zh_H (lf_A_analyse_100 cont 31 45 18 (nI r) fu q (nI (i + 1)) N) (fun M' => zf_F M M' zv_A ∧ zd_V M' P ∧ mm_I M' 31 0 = 1) := fun hno => k false N ⟨hI, (by intro h; cases h), fun _ => ⟨rfl, fun h => absurd h hno⟩⟩
      cases e : zp_ptb P i with
      | false =>
        rw [if_pos zb_f]
        simp only [Option.bind_some, nI_1]
        refine no (fun h => ?_)
        rw [zp_ptb_iff.mpr h.1] at e
        cases e
      | true =>
        have hpt := zp_ptb_iff.mp e
        have hbl := bpl i hpt
        rw [if_neg (by decide), zr_blockAt hP' hH' hV hpt, Option.bind_some, zg_isReached hG' (show zp_bp P i < 32 by omega), Option.bind_some]
        cases e2 : bt (mm_I N 18 1) (zp_bp P i) with
        | false =>
          rw [if_pos zb_f]
          simp only [Option.bind_some, nI_1]
          refine no (fun h => ?_)
          rw [(hr' _ (by omega)).mpr h.2] at e2
          cases e2
        | true =>
          rw [if_neg (by decide)]
          obtain ⟨c, N', e3, a1, a2, a3⟩ := zv_flow hA0 hP0 hH0 hV hn0 hI ⟨hpt, (hr' _ (by omega)).mp e2⟩
          refine zh_at2 e3 ?_
          cases c with
          | true =>
            rw [if_neg (by decide)]
            simp only [Option.bind_some, nI_1]
            exact k true N' ⟨a1, a2, a3⟩
          | false =>
            rw [if_pos (by decide)]
            simp only [Option.bind_some, nI_1]
            exact k false N' ⟨a1, a2, a3⟩
    · intro r cont fu q N
      show lb_A_analyse_100 cont 31 45 18 (nI r) (lf_A_analyse_100 cont 31 45 18 (nI r) fu) q (nI 52) N = _
      unfold lb_A_analyse_100
      rw [if_pos (show (52 : Int32) ≤ nI 52 from nI_le (a := 52) (Nat.le_refl _) (by omega))]
    · intro i N c N' hi hI ⟨a1, a2, a3⟩
      refine ⟨a1, a2, fun hc => ?_⟩
      obtain ⟨rfl, a4⟩ := a3 hc
      exact ⟨Nat.le_refl _, a4, fun j _ h => h⟩
    · intro fu r N
      show lb_A_analyse_84 _ 31 45 18 _ 0 (nI r) N = _
      unfold lb_A_analyse_84
      rw [if_pos rfl]
    · intro fu r N hr
      show lb_A_analyse_84 _ 31 45 18 _ 1 (nI r) N = _
      unfold lb_A_analyse_84
      rw [if_neg (by decide), if_neg (show ¬ (100000 : Int32) ≤ nI r from nI_ge (b := 100000) hr (by omega))]
      simp only [Option.bind_some, nI_1]
      rfl
    · intro N hI hS
      obtain ⟨hA', hG', hP', hH', hn', hr'⟩ := keep0 hI.1
      have e31 : (mm_k N 31).1 = 0 := by rw [hA'.1]
      rw [zp_Z1 e31, Option.bind_some]
      refine zh_some ⟨zf_tr (zf_mono f0 (fun a h => by unfold zv_A; omega)) (zf_tr (zf_mono hI.1 (fun a h => by unfold zv_A; omega)) (zf_I (by unfold zv_A; omega) _ _)), ⟨⟨fun i hi => ?_, fun v hv m hm => ?_⟩, fun p hp n h64 => ?_⟩, by rw [zm_II, if_pos ⟨rfl, rfl⟩]⟩
      · rw [zm_II, if_neg (by omega)]; exact hn'.1 i hi
      · rw [zm_JI]; exact hn'.2 v hv m hm
      · rw [zm_JI]; exact zv_all hV hn' hI hS hp h64
