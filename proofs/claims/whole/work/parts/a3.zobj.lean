/-! ===== a Program object: insert, remove, copy ===== -/
theorem zf_I1 (M : mm_T) (a k : Nat) (v : Int32) : zf_F M (mm_sI M a k v) (fun x => x = a) := zf_I (A := fun x => x = a) rfl k v
theorem zi_dec (n : Nat) : nI (n + 1) + (-1) = nI n := by
  rw [nI_succ, Int32.add_assoc, show (1 : Int32) + (-1) = 0 by decide, Int32.add_zero]
theorem zi_dec' {n : Nat} (h : 1 ≤ n) : nI n + (-1) = nI (n - 1) := by
  obtain ⟨m, rfl⟩ : ∃ m, n = m + 1 := ⟨n - 1, by omega⟩
  exact zi_dec m
section ZOF
variable {M : mm_T} {t : Nat} {P : zp_T}
theorem zo_moveStarts (hP : zo_P M t) {n b : Nat} (h0 : mm_I M t 0 = nI n) (hn : n ≤ 12) (hb : b < n) (d : Int32) : ∃ M', ff_P_moveStarts t (nI b) d M = some M' ∧ zf_F M M' (fun a => a = t + 2) ∧ ∀ c, mm_I M' (t + 2) c = if b < c ∧ c ≤ n then mm_I M (t + 2) c + d else mm_I M (t + 2) c := by
  suffices goal : zh_H (ff_P_moveStarts t (nI b) d M) (fun M' => zf_F M M' (fun a => a = t + 2) ∧ ∀ c, mm_I M' (t + 2) c = if b < c ∧ c ≤ n then mm_I M (t + 2) c + d else mm_I M (t + 2) c) from goal
  unfold ff_P_moveStarts
  rw [zq_gd (zo_e hP), Option.bind_some, nI_1]
  refine zh_up (F := fun fu i N => lf_P_moveStarts_4 t d fu i N) (n + 1) (fun i N => b + 1 ≤ i ∧ zf_F M N (fun a => a = t + 2) ∧ ∀ c, mm_I N (t + 2) c = if b < c ∧ c < i then mm_I M (t + 2) c + d else mm_I M (t + 2) c) ?_ ?_ fu_L (b + 1) M (by omega) (by rw [zs_fuel]; omega) ⟨Nat.le_refl _, zf_rfl _ _, fun c => by rw [if_neg (by omega)]⟩
  · intro fu i N hi ⟨g0, g1, g2⟩ k
    have hPN := hP.keep g1
    show zh_H (lb_P_moveStarts_4 t d (lf_P_moveStarts_4 t d fu) (nI i) N) _
    unfold lb_P_moveStarts_4
    rw [zg_I (zo_e hPN), Option.bind_some, zf_i g1 (by omega), h0, if_neg (nI_nlt (by omega) (by omega))]
    simp only [zg_R (zo_e hPN), Option.bind_some, hPN.2.1.2.1]
    rw [zd_at hPN.2.2.2.1 (show i < 13 by omega) (by omega), Option.bind_some, zd_put hPN.2.2.2.1 (show i < 13 by omega) (by omega), Option.bind_some, nI_1]
    refine k _ ⟨by omega, zf_tr g1 (zf_I1 _ _ _ _), fun c => ?_⟩
    rw [zm_II]
    by_cases q : c = i
    · rw [if_pos ⟨rfl, q⟩, if_pos (by omega), g2 i, if_neg (by omega), q]
    · rw [if_neg (fun z => q z.2), g2 c]
      by_cases q2 : b < c ∧ c < i
      · rw [if_pos q2, if_pos (by omega)]
      · rw [if_neg q2, if_neg (by omega)]
  · intro fu N ⟨g0, g1, g2⟩
    have hPN := hP.keep g1
    show zh_H (lb_P_moveStarts_4 t d (lf_P_moveStarts_4 t d fu) (nI (n + 1)) N) _
    unfold lb_P_moveStarts_4
    rw [zg_I (zo_e hPN), Option.bind_some, zf_i g1 (by omega), h0, if_pos (nI_lt (by omega) (by omega))]
    refine zh_some ⟨g1, fun c => ?_⟩
    rw [g2 c]
    by_cases q2 : b < c ∧ c ≤ n
    · rw [if_pos q2, if_pos (by omega)]
    · rw [if_neg q2, if_neg (by omega)]
theorem zo_insert (hP : zo_P M t) (hH : zo_H M t P) (hV : zp_V P) {b i : Nat} {q : Nat × Nat × Nat × Nat × Nat} (hb : b < zp_nb P) (hi2 : i ≤ zp_ni P) (hn : zp_ni P < 40) : ∃ M', ff_P_insert t (nI b) (nI i) (nI (zp_W q)) M = some M' ∧ zf_F M M' (zo_A t) ∧ zo_H M' t (zp_ins P b i q) := by
  have hnb := hV.2.1
  have aux : ∀ (k0 : mm_T → Option mm_T) (Q : mm_T → Prop), (∀ N, zf_F M N (fun a => a = t + 1) → (∀ k, mm_I N (t + 1) k = if i < k ∧ k ≤ zp_ni P then mm_I M (t + 1) (k - 1) else mm_I M (t + 1) k) → zh_H (k0 N) Q) → zh_H (lf_P_insert_6 k0 t (nI b) (nI i) (nI (zp_W q)) fu_L (nI (zp_ni P)) M) Q := by
    intro k0 Q hk
    refine zh_loop (F := fun fu (s : Nat × mm_T) => lf_P_insert_6 k0 t (nI b) (nI i) (nI (zp_W q)) fu (nI s.1) s.2) (fun s => i ≤ s.1 ∧ s.1 ≤ zp_ni P ∧ zf_F M s.2 (fun a => a = t + 1) ∧ ∀ k, mm_I s.2 (t + 1) k = if s.1 < k ∧ k ≤ zp_ni P then mm_I M (t + 1) (k - 1) else mm_I M (t + 1) k) (fun s => s.1 - i) ?_ fu_L (zp_ni P, M) ⟨hi2, Nat.le_refl _, zf_rfl _ _, fun k => by rw [if_neg (by show ¬ (zp_ni P < k ∧ k ≤ zp_ni P); omega)]⟩ (by rw [zs_fuel]; show zp_ni P - i < _; omega)
    intro fu s ⟨g0, g1, g2, g3⟩ k
    obtain ⟨j, N⟩ := s
    simp only at g0 g1 g2 g3
    have hPN := hP.keep g2
    show zh_H (lb_P_insert_6 k0 t (nI b) (nI i) (nI (zp_W q)) (lf_P_insert_6 k0 t (nI b) (nI i) (nI (zp_W q)) fu) (nI j) N) _
    unfold lb_P_insert_6
    by_cases c : j ≤ i
    · rw [if_pos (nI_le c (by omega))]
      have : j = i := by omega
      subst this
      exact hk N g2 g3
    · rw [if_neg (nI_ge (by omega) (by omega))]
      simp only [zg_R (zo_e hPN), Option.bind_some, hPN.2.1.1]
      rw [show nI j - (1 : Int32) = nI (j - 1) from zi_sub (b := 1) (by omega), zd_at hPN.2.2.1 (show j - 1 < 40 by omega) (by omega), Option.bind_some, zd_put hPN.2.2.1 (show j < 40 by omega) (by omega), Option.bind_some, zi_dec' (by omega)]
      refine k (j - 1, _) ⟨by show i ≤ j - 1; omega, by show j - 1 ≤ _; omega, zf_tr g2 (zf_I1 _ _ _ _), fun x => ?_⟩ (by show j - 1 - i < j - i; omega)
      show mm_I (mm_sI N (t + 1) j (mm_I N (t + 1) (j - 1))) (t + 1) x = if j - 1 < x ∧ x ≤ zp_ni P then _ else _
      rw [zm_II]
      by_cases e : x = j
      · rw [if_pos ⟨rfl, e⟩, if_pos (by omega), g3 (j - 1), if_neg (by omega), e]
      · rw [if_neg (fun z => e z.2), g3 x]
        by_cases e2 : j < x ∧ x ≤ zp_ni P
        · rw [if_pos e2, if_pos (by omega)]
        · rw [if_neg e2, if_neg (by omega)]
  suffices goal : zh_H (ff_P_insert t (nI b) (nI i) (nI (zp_W q)) M) (fun M' => zf_F M M' (zo_A t) ∧ zo_H M' t (zp_ins P b i q)) from goal
  unfold ff_P_insert
  rw [zq_gd (zo_e hP), zr_instr hP hH, Option.bind_some]
  refine aux _ _ (fun N f g => ?_)
  have hPN := hP.keep f
  have f1 : zf_F N (mm_sI N (t + 1) i (nI (zp_W q))) (fun a => a = t + 1) := zf_I1 _ _ _ _
  have hP1 := hPN.keep f1
  show zh_H ((gf_R N t 7 2).bind _) _
  rw [zg_R (zo_e hPN), Option.bind_some, hPN.2.1.1, zd_put hPN.2.2.1 (show i < 40 by omega) (by omega), Option.bind_some, zg_I (zo_e hP1), Option.bind_some, zp_I (zo_e hP1), Option.bind_some, zm_II, if_neg (by omega), zf_i f (by omega), hH.2.1, nI_1]
  have f2 : zf_F (mm_sI N (t + 1) i (nI (zp_W q))) (mm_sI (mm_sI N (t + 1) i (nI (zp_W q))) t 1 (nI (zp_ni P + 1))) (fun a => a = t) := zf_I1 _ _ _ _
  have hP2 := hP1.keep f2
  have h00 : mm_I (mm_sI (mm_sI N (t + 1) i (nI (zp_W q))) t 1 (nI (zp_ni P + 1))) t 0 = nI (zp_nb P) := by
    rw [zm_II, if_neg (by omega), zm_II, if_neg (by omega), zf_i f (by omega), hH.1]
  obtain ⟨M5, e5, f5, g5⟩ := zo_moveStarts hP2 h00 hnb hb 1
  rw [e5, Option.bind_some]
  have ff : zf_F M M5 (zo_A t) := zf_tr (zf_mono f (fun a z => by unfold zo_A; omega)) (zf_tr (zf_mono f1 (fun a z => by unfold zo_A; omega)) (zf_tr (zf_mono f2 (fun a z => by unfold zo_A; omega)) (zf_mono f5 (fun a z => by unfold zo_A; omega))))
  have old : ∀ a, a ≠ t → a ≠ t + 1 → a ≠ t + 2 → ∀ k, mm_I M5 a k = mm_I M a k := fun a z0 z1 z2 k => by
    rw [zf_i f5 z2, zm_II, if_neg (fun w => z0 w.1), zm_II, if_neg (fun w => z1 w.1), zf_i f z1]
  refine zh_some ⟨ff, ?_⟩
  obtain ⟨h1, h2, h3, h4, h5, h6, h7, h8⟩ := hH
  refine ⟨?_, ?_, fun j hj => ?_, fun c hc => ?_, fun c hc => ?_, fun c hc hw => ?_, fun c hc hw => ?_, fun c hc hw => ?_⟩
  · rw [zf_i f5 (by omega), h00]; rfl
  · rw [zf_i f5 (by omega), zm_II, if_pos ⟨rfl, rfl⟩]; rfl
  · have hj' : j < zp_ni P + 1 := hj
    rw [zf_i f5 (by omega), zm_II, if_neg (by omega), zm_II]
    show _ = nI (zp_W (if j < i then P.2.2.2.2 j else if j = i then q else P.2.2.2.2 (j - 1)))
    by_cases e : j = i
    · rw [if_pos ⟨rfl, e⟩, if_neg (by omega), if_pos e]
    · rw [if_neg (fun z => e z.2), g j]
      by_cases e2 : j < i
      · rw [if_neg (by omega), if_pos e2]; exact h3 j (by omega)
      · rw [if_pos (by omega), if_neg e2, if_neg e]; exact h3 _ (by omega)
  · have hc' : c ≤ zp_nb P := hc
    rw [g5 c]
    have e0 : mm_I (mm_sI (mm_sI N (t + 1) i (nI (zp_W q))) t 1 (nI (zp_ni P + 1))) (t + 2) c = nI (zp_st P c) := by
      rw [zm_II, if_neg (by omega), zm_II, if_neg (by omega), zf_i f (by omega), h4 c hc']
    rw [e0]
    show _ = nI (if b < c then zp_st P c + 1 else zp_st P c)
    by_cases e : b < c
    · rw [if_pos ⟨e, hc'⟩, if_pos e, nI_1]
    · rw [if_neg (fun z => e z.1), if_neg e]
  · rw [old _ (by omega) (by omega) (by omega)]; exact h5 c hc
  · rw [old _ (by omega) (by omega) (by omega)]; exact h6 c hc hw
  · rw [old _ (by omega) (by omega) (by omega)]; exact h7 c hc hw
  · rw [old _ (by omega) (by omega) (by omega)]; exact h8 c hc hw
theorem zo_remove (hP : zo_P M t) (hH : zo_H M t P) (hV : zp_V P) {i : Nat} (hi : i < zp_ni P) : ∃ M', ff_P_remove t (nI i) M = some M' ∧ zf_F M M' (zo_A t) ∧ zo_H M' t (zp_rm P i) := by
  have hnb := hV.2.1
  have hni := hV.2.2.1
  have hbl := zp_bk_lt hV hi
  have hhi := zp_bk_hi hV hi
  have ebp : zp_bp P i = zp_bk P i := by unfold zp_bp; rw [if_pos (by omega)]
  have f0 : zf_F M (mm_sI M t 1 (nI (zp_ni P - 1))) (fun a => a = t) := zf_I1 _ _ _ _
  have hP0 := hP.keep f0
  have h01 : mm_I (mm_sI M t 1 (nI (zp_ni P - 1))) t 1 = nI (zp_ni P - 1) := by rw [zm_II, if_pos ⟨rfl, rfl⟩]
  have aux : ∀ (k0 : mm_T → Option mm_T) (Q : mm_T → Prop), (∀ N, zf_F (mm_sI M t 1 (nI (zp_ni P - 1))) N (fun a => a = t + 1) → (∀ k, mm_I N (t + 1) k = if i ≤ k ∧ k < zp_ni P - 1 then mm_I M (t + 1) (k + 1) else mm_I M (t + 1) k) → zh_H (k0 N) Q) → zh_H (lf_P_remove_18 k0 t (nI (zp_bk P i)) fu_L (nI i) (mm_sI M t 1 (nI (zp_ni P - 1)))) Q := by
    intro k0 Q hk
    refine zh_up (F := fun fu j N => lf_P_remove_18 k0 t (nI (zp_bk P i)) fu j N) (zp_ni P - 1) (fun j N => i ≤ j ∧ zf_F (mm_sI M t 1 (nI (zp_ni P - 1))) N (fun a => a = t + 1) ∧ ∀ k, mm_I N (t + 1) k = if i ≤ k ∧ k < j then mm_I M (t + 1) (k + 1) else mm_I M (t + 1) k) ?_ ?_ fu_L i _ (by omega) (by rw [zs_fuel]; omega) ⟨Nat.le_refl _, zf_rfl _ _, fun k => by rw [if_neg (by omega), zm_II, if_neg (by omega)]⟩
    · intro fu j N hj ⟨g0, g1, g2⟩ k
      have hPN := hP0.keep g1
      show zh_H (lb_P_remove_18 k0 t (nI (zp_bk P i)) (lf_P_remove_18 k0 t (nI (zp_bk P i)) fu) (nI j) N) _
      unfold lb_P_remove_18
      rw [zg_I (zo_e hPN), Option.bind_some, zf_i g1 (by omega), h01, if_neg (nI_ge hj (by omega))]
      simp only [zg_R (zo_e hPN), Option.bind_some, hPN.2.1.1]
      rw [nI_1, zd_at hPN.2.2.1 (show j + 1 < 40 by omega) (by omega), Option.bind_some, zd_put hPN.2.2.1 (show j < 40 by omega) (by omega), Option.bind_some]
      refine k _ ⟨by omega, zf_tr g1 (zf_I1 _ _ _ _), fun x => ?_⟩
      rw [zm_II]
      by_cases e : x = j
      · rw [if_pos ⟨rfl, e⟩, if_pos (by omega), g2 (j + 1), if_neg (by omega), e]
      · rw [if_neg (fun z => e z.2), g2 x]
        by_cases e2 : i ≤ x ∧ x < j
        · rw [if_pos e2, if_pos (by omega)]
        · rw [if_neg e2, if_neg (by omega)]
    · intro fu N ⟨g0, g1, g2⟩
      have hPN := hP0.keep g1
      show zh_H (lb_P_remove_18 k0 t (nI (zp_bk P i)) (lf_P_remove_18 k0 t (nI (zp_bk P i)) fu) (nI (zp_ni P - 1)) N) _
      unfold lb_P_remove_18
      rw [zg_I (zo_e hPN), Option.bind_some, zf_i g1 (by omega), h01, if_pos (nI_le (Nat.le_refl _) (by omega))]
      exact hk N g1 g2
  suffices goal : zh_H (ff_P_remove t (nI i) M) (fun M' => zf_F M M' (zo_A t) ∧ zo_H M' t (zp_rm P i)) from goal
  unfold ff_P_remove
  rw [zq_gd (zo_e hP), zr_blockAt hP hH hV (Or.inl hi), Option.bind_some, ebp, zr_instr hP hH, Option.bind_some, show (1 : Int32) = nI 1 from rfl, zi_sub (by omega), zp_I (zo_e hP), Option.bind_some]
  refine aux _ _ (fun N f g => ?_)
  have hPN := hP0.keep f
  have h00 : mm_I N t 0 = nI (zp_nb P) := by
    rw [zf_i f (by omega), zm_II, if_neg (by omega), hH.1]
  obtain ⟨M5, e5, f5, g5⟩ := zo_moveStarts hPN h00 hnb hbl (-1)
  show zh_H ((ff_P_moveStarts t (nI (zp_bk P i)) (-1) N).bind _) _
  rw [e5, Option.bind_some]
  have ff : zf_F M M5 (zo_A t) := zf_tr (zf_mono f0 (fun a z => by unfold zo_A; omega)) (zf_tr (zf_mono f (fun a z => by unfold zo_A; omega)) (zf_mono f5 (fun a z => by unfold zo_A; omega)))
  have old : ∀ a, a ≠ t → a ≠ t + 1 → a ≠ t + 2 → ∀ k, mm_I M5 a k = mm_I M a k := fun a z0 z1 z2 k => by
    rw [zf_i f5 z2, zf_i f z1, zm_II, if_neg (fun w => z0 w.1)]
  refine zh_some ⟨ff, ?_⟩
  obtain ⟨h1, h2, h3, h4, h5, h6, h7, h8⟩ := hH
  refine ⟨?_, ?_, fun j hj => ?_, fun c hc => ?_, fun c hc => ?_, fun c hc hw => ?_, fun c hc hw => ?_, fun c hc hw => ?_⟩
  · rw [zf_i f5 (by omega), h00]; rfl
  · rw [zf_i f5 (by omega), zf_i f (by omega), zm_II, if_pos ⟨rfl, rfl⟩]; rfl
  · have hj' : j < zp_ni P - 1 := hj
    rw [zf_i f5 (by omega), g j]
    show _ = nI (zp_W (if j < i then P.2.2.2.2 j else P.2.2.2.2 (j + 1)))
    by_cases e2 : j < i
    · rw [if_neg (by omega), if_pos e2]; exact h3 j (by omega)
    · rw [if_pos (by omega), if_neg e2]; exact h3 _ (by omega)
  · have hc' : c ≤ zp_nb P := hc
    have e0 : mm_I N (t + 2) c = nI (zp_st P c) := by rw [zf_i f (by omega), zm_II, if_neg (by omega), h4 c hc']
    rw [g5 c, e0]
    show _ = nI (if zp_bk P i < c then zp_st P c - 1 else zp_st P c)
    by_cases e : zp_bk P i < c
    · have hm := zp_mono hV (b := zp_bk P i + 1) (c := c) (by omega) hc'
      rw [if_pos ⟨e, hc'⟩, if_pos e, zi_dec' (by omega)]
    · rw [if_neg (fun z => e z.1), if_neg e]
  · rw [old _ (by omega) (by omega) (by omega)]; exact h5 c hc
  · rw [old _ (by omega) (by omega) (by omega)]; exact h6 c hc hw
  · rw [old _ (by omega) (by omega) (by omega)]; exact h7 c hc hw
  · rw [old _ (by omega) (by omega) (by omega)]; exact h8 c hc hw
theorem zd_copy {a b n : Nat} (ha : mm_k M a = (20, n)) (hb : mm_k M b = (20, n)) (hn : n < 1000) (hab : a ≠ b) : ∃ M', ff_D_copy a b M = some M' ∧ zf_F M M' (fun x => x = b) ∧ ∀ k, k < n → mm_I M' b k = mm_I M a k := by
  suffices goal : zh_H (ff_D_copy a b M) (fun M' => zf_F M M' (fun x => x = b) ∧ ∀ k, k < n → mm_I M' b k = mm_I M a k) from goal
  unfold ff_D_copy
  refine zh_up (F := fun fu j N => lf_D_copy_2 a b fu j N) n (fun j N => zf_F M N (fun x => x = b) ∧ ∀ k, k < j → mm_I N b k = mm_I M a k) ?_ ?_ fu_L 0 M (Nat.zero_le _) (by rw [zs_fuel]; omega) ⟨zf_rfl _ _, fun k hk => absurd hk (Nat.not_lt_zero _)⟩
  · intro fu j N hj ⟨g1, g2⟩ k
    have kaN : mm_k N a = (20, n) := by rw [zf_k g1, ha]
    have kbN : mm_k N b = (20, n) := by rw [zf_k g1, hb]
    show zh_H (lb_D_copy_2 a b (lf_D_copy_2 a b fu) (nI j) N) _
    unfold lb_D_copy_2
    rw [za_N kaN (by omega), Option.bind_some, if_neg (nI_ge hj (by omega)), za_N kbN (by omega), Option.bind_some, if_neg (nI_ge hj (by omega)), za_I kaN hj (by omega), Option.bind_some, zw_I kbN hj (by omega), Option.bind_some, Option.bind_some, nI_1]
    refine k _ ⟨zf_tr g1 (zf_I1 _ _ _ _), fun x hx => ?_⟩
    rw [zm_II]
    by_cases e : x = j
    · rw [if_pos ⟨rfl, e⟩, zf_i g1 hab, e]
    · rw [if_neg (fun z => e z.2)]; exact g2 x (by omega)
  · intro fu N ⟨g1, g2⟩
    have kaN : mm_k N a = (20, n) := by rw [zf_k g1, ha]
    show zh_H (lb_D_copy_2 a b (lf_D_copy_2 a b fu) (nI n) N) _
    unfold lb_D_copy_2
    rw [za_N kaN (by omega), Option.bind_some, if_pos (nI_le (Nat.le_refl _) (by omega))]
    exact zh_some ⟨g1, g2⟩
theorem zo_copy {u : Nat} (hP : zo_P M t) (hU : zo_P M u) (hd : t + 6 < u ∨ u + 6 < t) (hH : zo_H M u P) (hV : zp_V P) : ∃ M', ff_P_copyFrom t u M = some M' ∧ zf_F M M' (zo_A t) ∧ zo_H M' t P := by
  have hnb := hV.2.1
  have hni := hV.2.2.1
  unfold ff_P_copyFrom
  have f1 : zf_F M (mm_sI M t 0 (mm_I M u 0)) (zo_A t) := zf_I (by unfold zo_A; omega) _ _
  have f2 : zf_F M (mm_sI (mm_sI M t 0 (mm_I M u 0)) t 1 (mm_I M u 1)) (zo_A t) := zf_tr f1 (zf_I (by unfold zo_A; omega) _ _)
  have hP1 := hP.keep f1
  have hU1 := hU.keep f1
  have hP2 := hP.keep f2
  have hU2 := hU.keep f2
  have e1 : mm_I (mm_sI M t 0 (mm_I M u 0)) u 1 = mm_I M u 1 := by rw [zm_II, if_neg (by omega)]
  rw [zq_gd (zo_e hP), zg_I (zo_e hU), Option.bind_some, zp_I (zo_e hP), Option.bind_some, zg_I (zo_e hU1), Option.bind_some, e1, zp_I (zo_e hP1), Option.bind_some, zg_R (zo_e hU2), Option.bind_some, hU2.2.1.1, zg_R (zo_e hP2), Option.bind_some, hP2.2.1.1]
  have cells : ∀ k, mm_I (mm_sI (mm_sI M t 0 (mm_I M u 0)) t 1 (mm_I M u 1)) t k = if k = 1 then mm_I M u 1 else if k = 0 then mm_I M u 0 else mm_I M t k := by
    intro k
    rw [zm_II, zm_II]
    by_cases c : k = 1
    · rw [if_pos ⟨rfl, c⟩, if_pos c]
    · rw [if_neg (fun z => c z.2), if_neg c]
      by_cases c0 : k = 0
      · rw [if_pos ⟨rfl, c0⟩, if_pos c0]
      · rw [if_neg (fun z => c0 z.2), if_neg c0]
  generalize mm_sI (mm_sI M t 0 (mm_I M u 0)) t 1 (mm_I M u 1) = M2 at f2 hP2 hU2 cells ⊢
  obtain ⟨M3, e3, f3, g3⟩ := zd_copy hU2.2.2.1 hP2.2.2.1 (by omega) (show u + 1 ≠ t + 1 by omega)
  have hP3 := hP2.keep f3
  have hU3 := hU2.keep f3
  rw [e3, Option.bind_some, zg_R (zo_e hU3), Option.bind_some, hU3.2.1.2.1, zg_R (zo_e hP3), Option.bind_some, hP3.2.1.2.1]
  obtain ⟨M4, e4, f4, g4⟩ := zd_copy hU3.2.2.2.1 hP3.2.2.2.1 (by omega) (show u + 2 ≠ t + 2 by omega)
  have hP4 := hP3.keep f4
  have hU4 := hU3.keep f4
  rw [e4, Option.bind_some, zg_R (zo_e hU4), Option.bind_some, hU4.2.1.2.2.1, zg_R (zo_e hP4), Option.bind_some, hP4.2.1.2.2.1]
  obtain ⟨M5, e5, f5, g5⟩ := zd_copy hU4.2.2.2.2.1 hP4.2.2.2.2.1 (by omega) (show u + 3 ≠ t + 3 by omega)
  have hP5 := hP4.keep f5
  have hU5 := hU4.keep f5
  rw [e5, Option.bind_some, zg_R (zo_e hU5), Option.bind_some, hU5.2.1.2.2.2.1, zg_R (zo_e hP5), Option.bind_some, hP5.2.1.2.2.2.1]
  obtain ⟨M6, e6, f6, g6⟩ := zd_copy hU5.2.2.2.2.2.1 hP5.2.2.2.2.2.1 (by omega) (show u + 4 ≠ t + 4 by omega)
  have hP6 := hP5.keep f6
  have hU6 := hU5.keep f6
  rw [e6, Option.bind_some, zg_R (zo_e hU6), Option.bind_some, hU6.2.1.2.2.2.2.1, zg_R (zo_e hP6), Option.bind_some, hP6.2.1.2.2.2.2.1]
  obtain ⟨M7, e7, f7, g7⟩ := zd_copy hU6.2.2.2.2.2.2.1 hP6.2.2.2.2.2.2.1 (by omega) (show u + 5 ≠ t + 5 by omega)
  have hP7 := hP6.keep f7
  have hU7 := hU6.keep f7
  rw [e7, Option.bind_some, zg_R (zo_e hU7), Option.bind_some, hU7.2.1.2.2.2.2.2, zg_R (zo_e hP7), Option.bind_some, hP7.2.1.2.2.2.2.2]
  obtain ⟨M8, e8, f8, g8⟩ := zd_copy hU7.2.2.2.2.2.2.2 hP7.2.2.2.2.2.2.2 (by omega) (show u + 6 ≠ t + 6 by omega)
  rw [e8, Option.bind_some]
  have w : ∀ {A B : mm_T} {c : Nat}, zf_F A B (fun x => x = c) → t ≤ c → c ≤ t + 6 → zf_F A B (zo_A t) := fun h h1 h2 => zf_mono h (fun a z => by unfold zo_A; omega)
  refine ⟨M8, rfl, zf_tr f2 (zf_tr (w f3 (by omega) (by omega)) (zf_tr (w f4 (by omega) (by omega)) (zf_tr (w f5 (by omega) (by omega)) (zf_tr (w f6 (by omega) (by omega)) (zf_tr (w f7 (by omega) (by omega)) (w f8 (by omega) (by omega))))))), ?_⟩
  have old : ∀ a, ¬ zo_A t a → ∀ k, mm_I M2 a k = mm_I M a k := fun a z k => zf_i f2 z k
  have nA : ∀ j, j ≤ 6 → ¬ zo_A t (u + j) := fun j hj => by unfold zo_A; omega
  obtain ⟨h1, h2, h3, h4, h5, h6, h7, h8⟩ := hH
  refine ⟨?_, ?_, fun i hi => ?_, fun c hc => ?_, fun c hc => ?_, fun c hc hw => ?_, fun c hc hw => ?_, fun c hc hw => ?_⟩
  · rw [zf_i f8 (by omega), zf_i f7 (by omega), zf_i f6 (by omega), zf_i f5 (by omega), zf_i f4 (by omega), zf_i f3 (by omega), cells, if_neg (by omega), if_pos rfl, h1]
  · rw [zf_i f8 (by omega), zf_i f7 (by omega), zf_i f6 (by omega), zf_i f5 (by omega), zf_i f4 (by omega), zf_i f3 (by omega), cells, if_pos rfl, h2]
  · rw [zf_i f8 (by omega), zf_i f7 (by omega), zf_i f6 (by omega), zf_i f5 (by omega), zf_i f4 (by omega), g3 i (by omega), old _ (nA 1 (by omega)), h3 i hi]
  · rw [zf_i f8 (by omega), zf_i f7 (by omega), zf_i f6 (by omega), zf_i f5 (by omega), g4 c (by omega), zf_i f3 (by omega), old _ (nA 2 (by omega)), h4 c hc]
  · rw [zf_i f8 (by omega), zf_i f7 (by omega), zf_i f6 (by omega), g5 c (by omega), zf_i f4 (by omega), zf_i f3 (by omega), old _ (nA 3 (by omega)), h5 c hc]
  · rw [zf_i f8 (by omega), zf_i f7 (by omega), g6 c (by omega), zf_i f5 (by omega), zf_i f4 (by omega), zf_i f3 (by omega), old _ (nA 4 (by omega)), h6 c hc hw]
  · rw [zf_i f8 (by omega), g7 c (by omega), zf_i f6 (by omega), zf_i f5 (by omega), zf_i f4 (by omega), zf_i f3 (by omega), old _ (nA 5 (by omega)), h7 c hc hw]
  · rw [g8 c (by omega), zf_i f7 (by omega), zf_i f6 (by omega), zf_i f5 (by omega), zf_i f4 (by omega), zf_i f3 (by omega), old _ (nA 6 (by omega)), h8 c hc hw]
end ZOF
