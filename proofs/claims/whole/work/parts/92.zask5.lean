/-! ===== the reference: what lacks, what is available ===== -/
def zk_B (M : mm_T) : Prop := ∀ x, x < 12 → mm_I M 56 x = 0 ∨ mm_I M 56 x = 1
def zk_l (M : mm_T) (x : Nat) : Bool := decide (mm_I M 56 x = 1)
def zk_mu (M : mm_T) : Nat := fb_ct (fun x => decide (mm_I M 56 x = 0)) 12
def zk_Inv (M : mm_T) (P : zp_T) (c : Nat) (N : mm_T) : Prop := zf_F M N zt_A ∧ zk_B N ∧ zk_l N 0 = true ∧ ∀ x, x < zp_nb P → zk_l N x = true → zp_LK P (zp_nm P c) (zp_fp P x)
def zk_St (P : zp_T) (c x : Nat) (N : mm_T) : Prop := zp_RB P x → zp_cy P c (zp_st P x) (!zk_l N x) (zp_st P (x + 1) - zp_st P x) = false → ∀ y, zp_ed P x y = true → zk_l N y = true
section ZR5
variable {M : mm_T} {o : Nat} {P : zp_T}
theorem zk_ar {N : mm_T} (hR : zt_R N) (hB : zk_B N) {x : Nat} (hx : x < 12) : ar_Z N 56 (nI x) = some (zb_B (zk_l N x)) := by
  rw [za_Z hR.2.2.2.2.2.1 hx (by omega)]
  unfold zk_l
  rcases hB x hx with q | q <;> rw [q] <;> rfl
theorem zt_lacking (h : zt_S M o P) {c : Nat} (hc : c < zp_ni P) (kc : zp_k P c = 2) : ∃ M', ff_M_findsLacking 52 (nI c) M = some M' ∧ zk_Inv M P c M' ∧ ∀ x, x < zp_nb P → zk_St P c x M' := by
  have hV := h.2.2.2.2
  have hnb := hV.2.1
  have hni := hV.2.2.1
  have e52 : (mm_k M 52).1 = 11 := by rw [h.1.1]
  unfold ff_M_findsLacking
  rw [zq_gd e52]
  refine zh_up (F := fun fu i N => lf_M_findsLacking_2 _ 52 (nI c) fu i N) (Q := fun M' => zk_Inv M P c M' ∧ ∀ x, x < zp_nb P → zk_St P c x M') 12 (fun i N => zf_F M N (fun x => x = 56) ∧ ∀ x, x < i → mm_I N 56 x = if x = 0 then 1 else 0) ?_ ?_ fu_L 0 M (Nat.zero_le _) (by rw [zs_fuel]; omega) ⟨zf_rfl _ _, fun x hx => absurd hx (Nat.not_lt_zero _)⟩
  · intro fu i N hi ⟨h1, h2⟩ k
    have hR' := h.1.keep h1
    have e52 : (mm_k N 52).1 = 11 := by rw [hR'.1]
    show zh_H (lb_M_findsLacking_2 _ 52 (nI c) (lf_M_findsLacking_2 _ 52 (nI c) fu) (nI i) N) _
    unfold lb_M_findsLacking_2
    have z0 : aw_Z N 56 (nI i) 0 = some (mm_sI N 56 i 0) := zw_Z hR'.2.2.2.2.2.1 hi (by omega) false
    have z1 : aw_Z N 56 (nI i) 1 = some (mm_sI N 56 i 1) := zw_Z hR'.2.2.2.2.2.1 hi (by omega) true
    rw [if_neg (show ¬ (12 : Int32) ≤ nI i from nI_ge (b := 12) hi (by omega))]
    simp only [zg_R e52, Option.bind_some, hR'.2.1.2.2.2.1, zq_jp, z0, z1, nI_1]
    by_cases ci : i = 0
    · rw [if_pos (by rw [ci]; rfl)]
      refine k _ ⟨zf_tr h1 (zf_I (A := fun x => x = 56) rfl _ _), fun x hx => ?_⟩
      rw [zm_II, show x = i by omega, if_pos ⟨rfl, rfl⟩, if_pos ci]
    · rw [if_neg (nI_ne0 (by omega) (by omega))]
      refine k _ ⟨zf_tr h1 (zf_I (A := fun x => x = 56) rfl _ _), fun x hx => ?_⟩
      rw [zm_II]
      by_cases cx : x = i
      · rw [if_pos ⟨rfl, cx⟩, if_neg (by omega)]
      · rw [if_neg (fun q => cx q.2)]; exact h2 x (by omega)
  · intro fu N ⟨h1, h2⟩
    show zh_H (lb_M_findsLacking_2 _ 52 (nI c) (lf_M_findsLacking_2 _ 52 (nI c) fu) (nI 12) N) _
    unfold lb_M_findsLacking_2
    rw [if_pos (show (12 : Int32) ≤ nI 12 from nI_le (a := 12) (Nat.le_refl _) (by omega))]
    dsimp only
    have f1 : zf_F M N zt_A := zf_mono h1 (fun a q => by unfold zt_A; omega)
    have hl : ∀ x, x < 12 → zk_l N x = decide (x = 0) := fun x hx => by unfold zk_l; rw [h2 x hx]; by_cases q : x = 0 <;> simp [q]
    have hI0 : zk_Inv M P c N := ⟨f1, fun x hx => by rw [h2 x hx]; split; exact Or.inr rfl; exact Or.inl rfl, by rw [hl 0 (by omega)]; rfl, fun x hx q => by
      rw [hl x (by omega)] at q
      exact zs_in (Or.inl (by rw [show x = 0 by simpa using q]))⟩
    refine zs_fix2 (Fin := fun r cont fu q i N => lf_M_findsLacking_39 cont 52 (nI c) fu q (nI i) N) (Fout := fun fu q r N => lf_M_findsLacking_31 52 (nI c) fu q N) (k0 := fun N => some N) (Q := fun M' => zk_Inv M P c M' ∧ ∀ x, x < zp_nb P → zk_St P c x M') (zp_nb P) 12 (zk_Inv M P c) (zk_St P c) zk_mu (fun i N d N' => zk_Inv M P c N' ∧ (d = true → zk_mu N' < zk_mu N) ∧ (d = false → (∀ x, mm_I N' 56 x = mm_I N 56 x) ∧ zk_St P c i N')) ?_ ?_ ?_ ?_ ?_ (by rw [zs_fuel]; omega) (by omega) ?_ fu_L 0 _ hI0 (by rw [Nat.zero_add]; exact fb_ct_le _ _) (by rw [zs_fuel]; omega)
    · intro r cont fu q i N hq hi hI k
      have hS : zt_S N o P := h.keepA hI.1 (fun a h => h)
      show zh_H (lb_M_findsLacking_39 cont 52 (nI c) (lf_M_findsLacking_39 cont 52 (nI c) fu) q (nI i) N) _
      unfold lb_M_findsLacking_39
      rw [zt_nb hS, Option.bind_some, if_neg (nI_ge hi (by omega))]
      have same : ∀ {N1 : mm_T}, zf_F N N1 (fun x => x = 55) → zk_Inv M P c N1 ∧ ∀ x, mm_I N1 56 x = mm_I N 56 x := by
        intro N1 f
        have e : ∀ x, mm_I N1 56 x = mm_I N 56 x := fun x => zf_i f (by omega) x
        exact ⟨⟨zf_tr hI.1 (zt_A55 f), fun x hx => by rw [e]; exact hI.2.1 x hx, by unfold zk_l; rw [e]; exact hI.2.2.1, fun x hx q => hI.2.2.2 x hx (by unfold zk_l at q ⊢; rw [← e]; exact q)⟩, e⟩
      -- isReached writes the row of seen blocks alone
      have hreach : ∃ (d : Bool) (N1 : mm_T), ff_M_isReached 52 (nI i) (-1) N = some (zb_B d, N1) ∧ zf_F N N1 (fun x => x = 55) ∧ (d = true ↔ zp_RB P i) := by
        have e52' : (mm_k N 52).1 = 11 := by rw [hS.1.1]
        obtain ⟨M1, M2, e1, e2, f2, b2, g2⟩ := zt_walk0 hS (vo := none) (bo := none) (fun v hv => by cases hv) (fun v hv => by cases hv)
        have hR2 := hS.1.keep f2
        have e52'' : (mm_k M2 52).1 = 11 := by rw [hR2.1]
        obtain ⟨d, ed, hd⟩ := zt_seen hR2 b2 (show i < 12 by omega)
        refine ⟨d, M2, ?_, f2, hd.trans ((g2 i (by omega)).trans zw_RB)⟩
        unfold ff_M_isReached
        rw [zq_gd e52', e1, Option.bind_some, show (-1 : Int32) = zo_N none from rfl, show zo_N none = zo_N (none : Option Nat) from rfl, e2, Option.bind_some, zg_R e52'', Option.bind_some, hR2.2.1.2.2.1, ed, Option.bind_some, zb_Zok, Option.bind_some]
      obtain ⟨d, N1, eN, fN, hd⟩ := hreach
      obtain ⟨hI1, hs1⟩ := same fN
      have hS1 : zt_S N1 o P := h.keepA hI1.1 (fun a h => h)
      have e52'' : (mm_k N1 52).1 = 11 := by rw [hS1.1.1]
      refine zh_at2 eN ?_
      simp only [zq_jp]
      cases d with
      | false =>
        rw [if_pos (by decide)]
        simp only [Option.bind_some, nI_1]
        refine k false N1 ⟨hI1, (by intro h; cases h), fun _ => ⟨hs1, fun hr => ?_⟩⟩
        have := hd.mpr hr
        cases this
      | true =>
        rw [if_neg (by decide)]
        have hse : zp_st P i ≤ zp_st P (i + 1) := hV.2.2.2.2.1 i hi
        simp only [zt_endOf hS1 hi, Option.bind_some, zg_R e52'', hS1.1.2.1.2.2.2.1, zk_ar hS1.1 hI1.2.1 (show i < 12 by omega), nI_1]
        have main : zh_H ((ff_M_carries 52 (nI c) (nI i) (nI (zp_st P (i + 1))) (zb_B (!zk_l N1 i)) N1).bind fun x12 => if x12 = 0 then lf_M_findsLacking_94 (fun x22 M6 => lf_M_findsLacking_39 cont 52 (nI c) fu x22 (nI (i + 1)) M6) 52 (nI c) (nI i) fu_L q 0 N1 else lf_M_findsLacking_39 cont 52 (nI c) fu q (nI (i + 1)) N1) (fun M' => zk_Inv M P c M' ∧ ∀ x, x < zp_nb P → zk_St P c x M') := by
          rw [zt_carries hS1 hc hi hse (Nat.le_refl _), Option.bind_some]
          have hr : zp_RB P i := hd.mp rfl
          cases ec : zp_cy P c (zp_st P i) (!zk_l N1 i) (zp_st P (i + 1) - zp_st P i) with
          | true =>
            rw [if_neg (by decide)]
            exact k false N1 ⟨hI1, (by intro h; cases h), fun _ => ⟨hs1, fun _ q => by rw [ec] at q; cases q⟩⟩
          | false =>
            rw [if_pos (by decide)]
            have hw := zp_w_le hV hi
            -- the block lacks at its end
            have hlackE : zp_LK P (zp_nm P c) (zp_pl P i (zp_st P (i + 1))) := by
              have key := zp_LK_cy hV hc kc (L := fun x => zp_b (x < zp_nb P ∧ zp_LK P (zp_nm P c) (zp_fp P x))) (zp_b_iff.mpr ⟨hV.1, zs_in (Or.inl rfl)⟩) (fun x hx q => (zp_b_iff.mp q).2) (fun x hx hrx hcy y hy => ?_) hi hr hse (Nat.le_refl _)
              · refine key.mpr ?_
                cases e : zp_cy P c (zp_st P i) (!zp_b (i < zp_nb P ∧ zp_LK P (zp_nm P c) (zp_fp P i))) (zp_st P (i + 1) - zp_st P i) with
                | false => rfl
                | true =>
                  have := zp_cy_m (P := P) (c := c) (a := zp_st P i) (s := !zp_b (i < zp_nb P ∧ zp_LK P (zp_nm P c) (zp_fp P i))) (t := !zk_l N1 i) (fun q => by
                    cases e2 : zk_l N1 i with
                    | false => rfl
                    | true =>
                      have e3 : zp_b (i < zp_nb P ∧ zp_LK P (zp_nm P c) (zp_fp P i)) = true := zp_b_iff.mpr ⟨hi, hI1.2.2.2 i hi e2⟩
                      rw [e3] at q
                      exact q) _ e
                  rw [ec] at this
                  cases this
              · -- closed: what lacks at the end of x lacks at the beginning of y
                refine zp_b_iff.mpr ⟨(zp_ed_lt hV hy).2, ?_⟩
                have back : ∀ n, zp_st P x + n ≤ zp_st P (x + 1) → zp_cy P c (zp_st P x) (!zp_b (x < zp_nb P ∧ zp_LK P (zp_nm P c) (zp_fp P x))) n = false → zp_LK P (zp_nm P c) (zp_pl P x (zp_st P x + n)) := by
                  intro n
                  induction n with
                  | zero =>
                    intro _ z
                    have z : (!zp_b (x < zp_nb P ∧ zp_LK P (zp_nm P c) (zp_fp P x))) = false := z
                    rw [Nat.add_zero, ← zp_fp_pl]
                    exact ((zp_b_iff (Φ := x < zp_nb P ∧ zp_LK P (zp_nm P c) (zp_fp P x))).mp (by simpa using z)).2
                  | succ n ih =>
                    intro z3 z
                    have z : ((zp_cy P c (zp_st P x) (!zp_b (x < zp_nb P ∧ zp_LK P (zp_nm P c) (zp_fp P x))) n || zp_sm P c (zp_st P x + n)) && !zp_kl P c (zp_st P x + n)) = false := z
                    have epl : zp_pl P x (zp_st P x + n) = zp_st P x + n := by unfold zp_pl; rw [if_pos (by omega)]
                    have hsc := zp_sc_in hV hx (k := zp_st P x + n) (by omega) (by omega)
                    have hse := zp_st_le hV (b := x + 1) (by omega)
                    obtain ⟨a1, a2, a3⟩ := zp_pl_all hV hx (k := zp_st P x + n) (by omega) (by omega)
                    rw [epl] at a1 a2
                    by_cases ck : zp_kl P c (zp_st P x + n) = true
                    · exact zs_in (Or.inr ⟨_, ⟨a1, by rw [a2]; exact hrx⟩, hsc, (zp_kl_KL hV hc kc).mp ck⟩)
                    · have hk : zp_kl P c (zp_st P x + n) = false := by simpa using ck
                      rw [hk, Bool.not_false, Bool.and_true, Bool.or_eq_false_iff] at z
                      have := ih (by omega) z.1
                      rw [epl] at this
                      refine zs_go this ⟨hsc, fun q => ?_⟩
                      rw [(zp_sm_GN hV hc kc (by omega)).mpr q] at z
                      cases z.2
                have hxl := (zp_ed_lt hV hy).1
                have hm := hV.2.2.2.2.1 x hxl
                have := back (zp_st P (x + 1) - zp_st P x) (by omega) hcy
                rw [show zp_st P x + (zp_st P (x + 1) - zp_st P x) = zp_st P (x + 1) by omega] at this
                have e : zp_pl P x (zp_st P (x + 1)) = 40 + x := by unfold zp_pl; rw [if_neg (Nat.lt_irrefl _)]
                rw [e] at this
                exact zs_go this ⟨zp_sc_out hV hy, fun q => by have := q.1; omega⟩
            have e40 : zp_pl P i (zp_st P (i + 1)) = 40 + i := by unfold zp_pl; rw [if_neg (Nat.lt_irrefl _)]
            rw [e40] at hlackE
            refine zh_up (F := fun fu j (s : Int32 × mm_T) => lf_M_findsLacking_94 _ 52 (nI c) (nI i) fu s.1 j s.2) (zp_w P i) (fun j s => ∃ d : Bool, s.1 = (if d = true then 1 else q) ∧ zk_Inv M P c s.2 ∧ zk_mu s.2 ≤ zk_mu N ∧ (d = true → zk_mu s.2 < zk_mu N) ∧ (d = false → ∀ x, mm_I s.2 56 x = mm_I N 56 x) ∧ ∀ m, m < j → zk_l s.2 (zp_way P i m) = true) ?_ ?_ fu_L 0 (q, N1) (Nat.zero_le _) (by rw [zs_fuel]; omega) ⟨false, rfl, hI1, by unfold zk_mu; simp only [hs1]; exact Nat.le_refl _, (by intro h; cases h), fun _ => hs1, fun m hm => absurd hm (Nat.not_lt_zero _)⟩
            · intro fu' j s hj ⟨d, s1, s2, s3, s4, s5, s6⟩ k'
              obtain ⟨q2, N2⟩ := s
              simp only at s1 s2 s3 s4 s5 s6
              have hS2 : zt_S N2 o P := h.keepA s2.1 (fun a h => h)
              have e52''' : (mm_k N2 52).1 = 11 := by rw [hS2.1.1]
              have hwl := zp_way_lt hV hi hj
              have hway : zp_ed P i (zp_way P i j) = true := (zp_ed_way hV).mpr ⟨hi, j, hj, rfl⟩
              have z1 : aw_Z N2 56 (nI (zp_way P i j)) 1 = some (mm_sI N2 56 (zp_way P i j) 1) := zw_Z hS2.1.2.2.2.2.2.1 (show zp_way P i j < 12 by omega) (by omega) true
              show zh_H (lb_M_findsLacking_94 _ 52 (nI c) (nI i) (lf_M_findsLacking_94 _ 52 (nI c) (nI i) fu') q2 (nI j) N2) _
              unfold lb_M_findsLacking_94
              rw [zt_ways hS2 hi, Option.bind_some, if_neg (nI_ge hj (by omega))]
              simp only [zg_R e52''', Option.bind_some, hS2.1.2.1.2.2.2.1, zt_way hS2 hi hj, zk_ar hS2.1 s2.2.1 (show zp_way P i j < 12 by omega), zq_jp, z1, nI_1]
              have hInv : zk_Inv M P c (mm_sI N2 56 (zp_way P i j) 1) := by
                refine ⟨zf_tr s2.1 (zf_I (by unfold zt_A; omega) _ _), fun x hx => ?_, ?_, fun x hx q => ?_⟩
                · rw [zm_II]
                  split
                  · exact Or.inr rfl
                  · exact s2.2.1 x hx
                · unfold zk_l
                  rw [zm_II]
                  split
                  · rfl
                  · exact s2.2.2.1
                · unfold zk_l at q
                  rw [zm_II] at q
                  split at q
                  · rename_i z
                    rw [z.2]
                    exact zs_go hlackE ⟨zp_sc_out hV hway, fun q => by have := q.1; omega⟩
                  · exact s2.2.2.2 x hx q
              have h6 : ∀ m, m < j + 1 → zk_l (mm_sI N2 56 (zp_way P i j) 1) (zp_way P i m) = true := by
                intro m hm
                unfold zk_l
                rw [zm_II]
                split
                · rfl
                · rename_i z
                  rcases Nat.lt_or_ge m j with z2 | z2
                  · exact s6 m z2
                  · exact absurd ⟨rfl, by rw [show m = j by omega]⟩ z
              have hle : zk_mu (mm_sI N2 56 (zp_way P i j) 1) ≤ zk_mu N2 := by
                refine fb_ct_sub (fun x _ hx => ?_)
                rw [zm_II] at hx
                split at hx
                · cases hx
                · exact hx
              cases e : zk_l N2 (zp_way P i j) with
              | true =>
                rw [if_neg (by decide), Int32.or_zero]
                have hsame : mm_sI N2 56 (zp_way P i j) 1 = N2 := by
                  have : mm_I N2 56 (zp_way P i j) = 1 := by unfold zk_l at e; simpa using e
                  rw [← this]; exact zm_same _ _ _
                rw [hsame] at h6 ⊢
                exact k' (q2, N2) ⟨d, s1, s2, s3, s4, s5, h6⟩
              | false =>
                rw [if_pos (by decide)]
                have hq2 : q2 = 0 ∨ q2 = 1 := by rw [s1]; split; exact Or.inr rfl; exact hq
                have hor : q2 ||| 1 = 1 := by rcases hq2 with z | z <;> rw [z] <;> decide
                have hlt : zk_mu (mm_sI N2 56 (zp_way P i j) 1) < zk_mu N2 := by
                  refine zs_ctlt (x := zp_way P i j) (fun x _ hx => ?_) (by omega) (by rw [zm_II, if_pos ⟨rfl, rfl⟩]; rfl) ?_
                  · rw [zm_II] at hx
                    split at hx
                    · cases hx
                    · exact hx
                  · rcases s2.2.1 _ (show zp_way P i j < 12 by omega) with z | z
                    · rw [z]; rfl
                    · unfold zk_l at e; rw [z] at e; cases e
                rw [hor]
                exact k' (1, _) ⟨true, rfl, hInv, Nat.le_trans hle s3, fun _ => Nat.lt_of_lt_of_le hlt s3, (by intro h; cases h), h6⟩
            · intro fu' s ⟨d, s1, s2, s3, s4, s5, s6⟩
              obtain ⟨q2, N2⟩ := s
              simp only at s1 s2 s3 s4 s5 s6
              have hS2 : zt_S N2 o P := h.keepA s2.1 (fun a h => h)
              show zh_H (lb_M_findsLacking_94 _ 52 (nI c) (nI i) (lf_M_findsLacking_94 _ 52 (nI c) (nI i) fu') q2 (nI (zp_w P i)) N2) _
              unfold lb_M_findsLacking_94
              rw [zt_ways hS2 hi, Option.bind_some, if_pos (nI_le (Nat.le_refl _) (by omega)), s1]
              refine k d N2 ⟨s2, s4, fun hdf => ⟨s5 hdf, fun _ _ y hy => ?_⟩⟩
              obtain ⟨_, m, hm, e2⟩ := (zp_ed_way hV).mp hy
              rw [e2]
              exact s6 m hm
        cases e : zk_l N1 i with
        | false =>
          rw [e] at main
          rw [if_pos (by decide)]
          exact main
        | true =>
          rw [e] at main
          rw [if_neg (by decide)]
          exact main
    · intro r cont fu q N hI
      have hS : zt_S N o P := h.keepA hI.1 (fun a h => h)
      show lb_M_findsLacking_39 cont 52 (nI c) (lf_M_findsLacking_39 cont 52 (nI c) fu) q (nI (zp_nb P)) N = _
      unfold lb_M_findsLacking_39
      rw [zt_nb hS, Option.bind_some, if_pos (nI_le (Nat.le_refl _) (by omega))]
    · intro i N d N' hi hI ⟨a1, a2, a3⟩
      refine ⟨a1, a2, fun hdf => ?_⟩
      obtain ⟨b1, b2⟩ := a3 hdf
      have e : zk_l N' = zk_l N := by funext x; unfold zk_l; rw [b1]
      refine ⟨by unfold zk_mu; simp only [b1]; exact Nat.le_refl _, b2, fun j hj q => ?_⟩
      unfold zk_St at q ⊢
      rw [e]
      exact q
    · intro fu r N
      show lb_M_findsLacking_31 52 (nI c) _ 0 N = _
      unfold lb_M_findsLacking_31
      rw [if_pos rfl]
    · intro fu r N _
      show lb_M_findsLacking_31 52 (nI c) _ 1 N = _
      unfold lb_M_findsLacking_31
      rw [if_neg (by decide)]
      rfl
    · intro N hI hS
      exact zh_some ⟨hI, hS⟩
theorem zt_available (h : zt_S M o P) {c b k : Nat} (hc : c < zp_ni P) (kc : zp_k P c = 2) (hb : b < zp_nb P) (h1 : zp_st P b ≤ k) (h2 : k ≤ zp_st P (b + 1)) : zt_Q (ff_M_isAvailable 52 (nI c) (nI b) (nI k) M) M (zp_AL P (zp_nm P c) (zp_pl P b k)) := by
  have hV := h.2.2.2.2
  have hnb := hV.2.1
  have e52 : (mm_k M 52).1 = 11 := by rw [h.1.1]
  obtain ⟨a1, a2, a3⟩ := zp_pl_all hV hb h1 h2
  refine zt_Qh ?_
  unfold ff_M_isAvailable
  rw [zq_gd e52]
  refine zt_Qbd (zt_isReached h (show b < 12 by omega)) (fun N f q => ?_) (fun N f q => ?_)
  · rw [if_neg (by decide)]
    have hS : zt_S N o P := h.keepA f (fun a h => h)
    obtain ⟨N2, e2, hI, hSt⟩ := zt_lacking hS hc kc
    have hS2 : zt_S N2 o P := hS.keepA hI.1 (fun a h => h)
    have e52' : (mm_k N2 52).1 = 11 := by rw [hS2.1.1]
    have key := zp_LK_cy hV hc kc (L := zk_l N2) hI.2.2.1 hI.2.2.2 (fun x hx hr hcy y hy => hSt x hx hr hcy y hy) hb q h1 h2
    have fin : zh_H ((ff_M_carries 52 (nI c) (nI b) (nI k) (zb_B (!zk_l N2 b)) N2).bind fun x5 => (zb_Z x5).bind fun w => some (w, N2)) (fun y => ∃ (b' : Bool) (M' : mm_T), y = (zb_B b', M') ∧ zf_F M M' zt_A ∧ (b' = true ↔ zp_AL P (zp_nm P c) (zp_pl P b k))) := by
      rw [zt_carries hS2 hc hb h1 h2, Option.bind_some, zb_Zok, Option.bind_some]
      refine zh_some ⟨_, N2, rfl, zf_tr f hI.1, ?_⟩
      unfold zp_AL zp_OP
      rw [key, a2]
      constructor
      · exact fun z => ⟨⟨a1, q⟩, fun z2 => by rw [z] at z2; cases z2⟩
      · exact fun z => by simpa using z.2
    rw [e2, Option.bind_some, zg_R e52', Option.bind_some, hS2.1.2.1.2.2.2.1, zk_ar hS2.1 hI.2.1 (show b < 12 by omega), Option.bind_some]
    simp only [zq_jp]
    cases e : zk_l N2 b with
    | false =>
      rw [e] at fin
      rw [if_pos (by decide)]
      exact fin
    | true =>
      rw [e] at fin
      rw [if_neg (by decide)]
      exact fin
  · rw [if_pos rfl]
    refine zt_Qf f (fun z => ?_)
    have := z.1.2
    rw [a2] at this
    exact q this
theorem zt_newest (h : zt_S M o P) {i : Nat} (hi : i < zp_ni P) : ff_M_isNewest 52 (nI i) M = some (zb_B (decide (zp_k P i = 2) && decide (zp_nm P i = i))) := by
  have hV := h.2.2.2.2
  have hni := hV.2.2.1
  have e52 : (mm_k M 52).1 = 11 := by rw [h.1.1]
  have hk3 : zp_k P i ≤ 3 := (hV.2.2.2.2.2.2.2 i hi).1
  unfold ff_M_isNewest
  rw [zq_gd e52, zt_k h hi, Option.bind_some]
  by_cases c : zp_k P i = 2
  · rw [if_pos (show nI (zp_k P i) = (2 : Int32) by rw [c]; rfl)]
    have hself := zp_nm_self hi c
    refine zh_is (zh_up (F := fun fu j (_ : Unit) => lf_M_isNewest_14 52 (nI i) M fu j) (Q := fun y => y = zb_B (decide (zp_k P i = 2) && decide (zp_nm P i = i))) i (fun j _ => ∀ m, m < j → zp_sm P i m = false) ?_ ?_ fu_L 0 () (Nat.zero_le _) (by rw [zs_fuel]; omega) (fun m hm => absurd hm (Nat.not_lt_zero _)))
    · intro fu j s hj hno k
      show zh_H (lb_M_isNewest_14 52 (nI i) M (lf_M_isNewest_14 52 (nI i) M fu) (nI j)) _
      unfold lb_M_isNewest_14
      rw [if_neg (nI_ge hj (by omega)), zt_isSame h hi (by omega), Option.bind_some]
      cases e : zp_sm P i j with
      | false =>
        rw [if_pos (by decide), Option.bind_some, nI_1]
        refine k () (fun m hm => ?_)
        rcases Nat.lt_or_ge m j with z | z
        · exact hno m z
        · rw [show m = j by omega]; exact e
      | true =>
        rw [if_neg (by decide)]
        refine zh_some ?_
        have hg := (zp_sm_GN hV hi c (show j < zp_ni P by omega)).mp e
        have := (zp_nm_self (show j < zp_ni P by omega) hg.2.1).1
        rw [hg.2.2] at this
        simp [c, show ¬ zp_nm P i = i by omega, zb_B]
    · intro fu s hno
      show zh_H (lb_M_isNewest_14 52 (nI i) M (lf_M_isNewest_14 52 (nI i) M fu) (nI i)) _
      unfold lb_M_isNewest_14
      rw [if_pos (nI_le (Nat.le_refl _) (by omega))]
      refine zh_some ?_
      have : zp_nm P i = i := by
        rcases Nat.lt_or_ge (zp_nm P i) i with z | z
        · exfalso
          have e := hno _ z
          have hg : zp_GN P (zp_nm P i) (zp_nm P i) := by
            refine ⟨by omega, hself.2.1, ?_⟩
            have : zp_sx P (zp_nm P i) = zp_sx P i := by funext j; unfold zp_sx; rw [hself.2.2]
            unfold zp_nm at this ⊢
            rw [this]
          rw [(zp_sm_GN hV hi c (show zp_nm P i < zp_ni P by omega)).mpr hg] at e
          cases e
        · omega
      simp [c, this, zb_B]
  · rw [if_neg (show ¬ nI (zp_k P i) = (2 : Int32) from fun q => c ((nI_eq (b := 2) (by omega) (by omega)).mp q))]
    simp [c, zb_B]
/-- a redundant CALC -/
def zp_RU (P : zp_T) (i : Nat) : Prop := zp_k P i = 2 ∧ zp_AL P (zp_nm P i) i
theorem zt_redundant0 (h : zt_S M o P) {i : Nat} (hi : i < zp_ni P) : zt_Q (ff_M_isRedundant0 52 (nI i) M) M (zp_RU P i) := by
  have hV := h.2.2.2.2
  have e52 : (mm_k M 52).1 = 11 := by rw [h.1.1]
  have hk3 : zp_k P i ≤ 3 := (hV.2.2.2.2.2.2.2 i hi).1
  have hbl := zp_bk_lt hV hi
  have hlo := zp_bk_lo hV hi
  have hhi := zp_bk_hi hV hi
  refine zt_Qh ?_
  unfold ff_M_isRedundant0
  rw [zq_gd e52, zt_k h hi, Option.bind_some]
  by_cases c : zp_k P i = 2
  · have epl : zp_pl P (zp_bk P i) i = i := by unfold zp_pl; rw [if_pos hhi]
    rw [if_pos (show nI (zp_k P i) = (2 : Int32) by rw [c]; rfl), zt_blockAt h hi, Option.bind_some]
    refine zt_Qbd (zt_available h hi c hbl hlo (by omega)) (fun N f q => ?_) (fun N f q => ?_)
    · rw [epl] at q
      rw [if_neg (by decide)]
      exact zt_Qt f ⟨c, q⟩
    · rw [epl] at q
      rw [if_pos rfl]
      exact zt_Qf f (fun z => q z.2)
  · rw [if_neg (show ¬ nI (zp_k P i) = (2 : Int32) from fun q => c ((nI_eq (b := 2) (by omega) (by omega)).mp q))]
    exact zt_Qf (zf_rfl _ _) (fun z => c z.1)
end ZR5
