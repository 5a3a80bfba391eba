/-! ===== the same in slot 0 (copied by copyr.py) ===== -/
def kR_H (M : mm_T) (Q : zp_T) (m : Nat) : Prop := mm_I M 53 (262 * 0 + 0) = nI (zp_nb Q) ∧ mm_I M 53 (262 * 0 + 1) = nI (zp_ni Q) ∧ (∀ b, b < zp_nb Q → mm_I M 53 (262 * 0 + (2 + 5 * b + 0)) = nI (zp_st Q (b + 1) - zp_st Q b)) ∧ (∀ b, b < m → mm_I M 53 (262 * 0 + (2 + 5 * b + 1)) = nI (zp_w Q b) ∧ (zp_w Q b = 2 → mm_I M 53 (262 * 0 + (2 + 5 * b + 2)) = nI (zp_x Q b)) ∧ (1 ≤ zp_w Q b → mm_I M 53 (262 * 0 + (2 + 5 * b + 3)) = nI (zp_f Q b)) ∧ (zp_w Q b = 2 → mm_I M 53 (262 * 0 + (2 + 5 * b + 4)) = nI (zp_s Q b))) ∧ ∀ i, i < zp_ni Q → mm_I M 53 (262 * 0 + (62 + 5 * i + 0)) = nI (zp_k Q i) ∧ mm_I M 53 (262 * 0 + (62 + 5 * i + 1)) = nI (zp_t Q i) ∧ mm_I M 53 (262 * 0 + (62 + 5 * i + 2)) = nI (zp_l Q i) ∧ mm_I M 53 (262 * 0 + (62 + 5 * i + 3)) = nI (zp_o Q i) ∧ mm_I M 53 (262 * 0 + (62 + 5 * i + 4)) = nI (zp_r Q i)
theorem kR_H.keep {M M' : mm_T} {Q : zp_T} {m : Nat} (h : kR_H M Q m) (hI : ∀ k, mm_I M' 53 k = mm_I M 53 k) : kR_H M' Q m := by
  unfold kR_H
  simp only [hI]
  exact h
theorem kR_H.fin {M : mm_T} {Q : zp_T} (h : kR_H M Q (zp_nb Q)) : zt_H M 0 Q := by
  obtain ⟨h1, h2, h3, h4, h5⟩ := h
  exact ⟨h1, h2, fun b hb => ⟨h3 b hb, h4 b hb⟩, h5⟩
section ZRHK
variable {M : mm_T} {Q : zp_T} {m : Nat}
theorem kR_get0 (W : zt_W M 0) (hH : kR_H M Q m) : ff_M_get 52 0 M = some (nI (zp_nb Q)) := by
  rw [show (0 : Int32) = nI 0 from rfl, zt_get W.1 W.2.1 W.2.2 (by omega), hH.1]
theorem kR_get1 (W : zt_W M 0) (hH : kR_H M Q m) : ff_M_get 52 1 M = some (nI (zp_ni Q)) := by
  rw [show (1 : Int32) = nI 1 from rfl, zt_get W.1 W.2.1 W.2.2 (by omega), hH.2.1]
theorem kR_newBlock (W : zt_W M 0) (hH : kR_H M Q m) (hV : zQ_V Q m) (h12 : zp_nb Q < 12) : ∃ M', ff_M_newBlock 52 M = some M' ∧ zt_E 0 M M' ∧ kR_H M' (zQ_add Q) m := by
  have e1 := zt_layB W h12 (f := 0) (by omega) 0
  have f1 := zt_E_1 (o := 0) M (k := 2 + 5 * zp_nb Q + 0) 0 (by omega)
  have W1 := W.keep f1.1
  have g0 : mm_I (mm_sI M 53 (262 * 0 + (2 + 5 * zp_nb Q + 0)) 0) 53 (262 * 0 + 0) = nI (zp_nb Q) := by rw [zm_II, if_neg (by omega), hH.1]
  have e2 : ff_M_get 52 0 (mm_sI M 53 (262 * 0 + (2 + 5 * zp_nb Q + 0)) 0) = some (nI (zp_nb Q)) := by
    rw [show (0 : Int32) = nI 0 from rfl, show nI 0 = (0 : Int32) from rfl]
    have := zt_get W1.1 W1.2.1 W1.2.2 (w := 0) (by omega)
    rw [g0] at this
    exact this
  have e3 := zt_lay W1.1 W1.2.1 W1.2.2 (w := 0) (by omega) (nI (zp_nb Q + 1))
  have f2 := zt_E_tr f1 (zt_E_1 (o := 0) _ (k := 0) (nI (zp_nb Q + 1)) (by omega))
  have e1' : ff_M_layBlock 52 (nI (zp_nb Q)) 0 0 M = _ := e1
  have e3' : ff_M_lay 52 0 (nI (zp_nb Q + 1)) (mm_sI M 53 (262 * 0 + (2 + 5 * zp_nb Q + 0)) 0) = _ := e3
  unfold ff_M_newBlock
  rw [zq_gd (zt_We W), kR_get0 W hH, Option.bind_some, e1', Option.bind_some, e2, Option.bind_some, nI_1, e3', Option.bind_some]
  refine ⟨_, rfl, f2, ?_⟩
  obtain ⟨h1, h2, h3, h4, h5⟩ := hH
  have ol : ∀ k, k ≠ 262 * 0 + 0 → k ≠ 262 * 0 + (2 + 5 * zp_nb Q + 0) → mm_I (mm_sI (mm_sI M 53 (262 * 0 + (2 + 5 * zp_nb Q + 0)) 0) 53 (262 * 0 + 0) (nI (zp_nb Q + 1))) 53 k = mm_I M 53 k := fun k q1 q2 => by rw [zm_II, if_neg (fun z => q1 z.2), zm_II, if_neg (fun z => q2 z.2)]
  have hm := hV.2.2.2.2.2.1
  refine ⟨?_, ?_, fun b hb => ?_, fun b hb => ?_, fun i hi => ?_⟩
  · rw [zm_II, if_pos ⟨rfl, rfl⟩]; rfl
  · rw [ol _ (by omega) (by omega)]; exact h2
  · have hb' : b < zp_nb Q + 1 := hb
    show _ = nI ((if b + 1 = zp_nb Q + 1 then zp_ni Q else zp_st Q (b + 1)) - (if b = zp_nb Q + 1 then zp_ni Q else zp_st Q b))
    rw [if_neg (show ¬ b = zp_nb Q + 1 by omega)]
    by_cases c : b = zp_nb Q
    · rw [if_pos (by omega), c, zm_II, if_neg (by omega), zm_II, if_pos ⟨rfl, rfl⟩, hV.2.2.2.2.1, Nat.sub_self]; rfl
    · rw [if_neg (by omega), ol _ (by omega) (by omega)]; exact h3 b (by omega)
  · rw [ol _ (by omega) (by omega), ol _ (by omega) (by omega), ol _ (by omega) (by omega), ol _ (by omega) (by omega)]
    exact h4 b hb
  · rw [ol _ (by omega) (by have := hV.1; omega), ol _ (by omega) (by omega), ol _ (by omega) (by omega), ol _ (by omega) (by omega), ol _ (by omega) (by omega)]
    exact h5 i hi
theorem kR_newItem (W : zt_W M 0) (hH : kR_H M Q m) (hV : zQ_V Q m) (h40 : zp_ni Q < 40) (hnb : 1 ≤ zp_nb Q) (q : Nat × Nat × Nat × Nat × Nat) : ∃ M', ff_M_newItem 52 (nI q.1) (nI q.2.1) (nI q.2.2.1) (nI q.2.2.2.1) (nI q.2.2.2.2) M = some M' ∧ zt_E 0 M M' ∧ kR_H M' (zQ_app Q q) m := by
  have h12 := hV.1
  obtain ⟨M1, e1, f1, k1, v0, v1, v2, v3, v4⟩ := zt_writes W h40 (k := q.1) (t := q.2.1) (l := q.2.2.1) (c := q.2.2.2.1) (r := q.2.2.2.2)
  have E1 : zt_E 0 M M1 := ⟨f1, fun k hk => k1 k (by omega)⟩
  have W1 := W.keep f1
  have a1 : ff_M_get 52 1 M1 = some (nI (zp_ni Q)) := by
    have := zt_get W1.1 W1.2.1 W1.2.2 (w := 1) (by omega)
    rw [k1 _ (by omega), hH.2.1] at this
    exact this
  have e2 := zt_lay W1.1 W1.2.1 W1.2.2 (w := 1) (by omega) (nI (zp_ni Q + 1))
  have e2' : ff_M_lay 52 1 (nI (zp_ni Q + 1)) M1 = _ := e2
  have E2 := zt_E_tr E1 (zt_E_1 (o := 0) M1 (k := 1) (nI (zp_ni Q + 1)) (by omega))
  have W2 := W1.keep (zt_f53 M1 (262 * 0 + 1) (nI (zp_ni Q + 1)))
  have a2 : ff_M_get 52 0 (mm_sI M1 53 (262 * 0 + 1) (nI (zp_ni Q + 1))) = some (nI (zp_nb Q)) := by
    have := zt_get W2.1 W2.2.1 W2.2.2 (w := 0) (by omega)
    rw [zm_II, if_neg (by omega), k1 _ (by omega), hH.1] at this
    exact this
  have a3 : ff_M_bl 52 (nI (zp_nb Q - 1)) 0 (mm_sI M1 53 (262 * 0 + 1) (nI (zp_ni Q + 1))) = some (nI (zp_st Q (zp_nb Q - 1 + 1) - zp_st Q (zp_nb Q - 1))) := by
    have := zt_bl0 W2.1 W2.2.1 W2.2.2 (b := zp_nb Q - 1) (f := 0) (by omega) (by omega)
    rw [zm_II, if_neg (by omega), k1 _ (by omega), hH.2.2.1 _ (by omega)] at this
    exact this
  have e3 := zt_layB W2 (b := zp_nb Q - 1) (f := 0) (by omega) (by omega) (nI (zp_st Q (zp_nb Q - 1 + 1) - zp_st Q (zp_nb Q - 1) + 1))
  have e3' : ff_M_layBlock 52 (nI (zp_nb Q - 1)) 0 (nI (zp_st Q (zp_nb Q - 1 + 1) - zp_st Q (zp_nb Q - 1) + 1)) (mm_sI M1 53 (262 * 0 + 1) (nI (zp_ni Q + 1))) = _ := e3
  have E3 := zt_E_tr E2 (zt_E_1 (o := 0) (mm_sI M1 53 (262 * 0 + 1) (nI (zp_ni Q + 1))) (k := 2 + 5 * (zp_nb Q - 1) + 0) (nI (zp_st Q (zp_nb Q - 1 + 1) - zp_st Q (zp_nb Q - 1) + 1)) (by omega))
  unfold ff_M_newItem
  rw [zq_gd (zt_We W), kR_get1 W hH, Option.bind_some, e1, Option.bind_some, a1, Option.bind_some, nI_1, e2', Option.bind_some, a2, Option.bind_some]
  have es : nI (zp_nb Q) - (1 : Int32) = nI (zp_nb Q - 1) := zi_sub (b := 1) (by omega)
  rw [es, Option.bind_some, a3, Option.bind_some, nI_1, e3', Option.bind_some]
  refine ⟨_, rfl, E3, ?_⟩
  obtain ⟨h1, h2, h3, h4, h5⟩ := hH
  have ol : ∀ k, k ≠ 262 * 0 + 1 → k ≠ 262 * 0 + (2 + 5 * (zp_nb Q - 1) + 0) → mm_I (mm_sI (mm_sI M1 53 (262 * 0 + 1) (nI (zp_ni Q + 1))) 53 (262 * 0 + (2 + 5 * (zp_nb Q - 1) + 0)) (nI (zp_st Q (zp_nb Q - 1 + 1) - zp_st Q (zp_nb Q - 1) + 1))) 53 k = mm_I M1 53 k := fun k q1 q2 => by rw [zm_II, if_neg (fun z => q2 z.2), zm_II, if_neg (fun z => q1 z.2)]
  have hm := hV.2.2.2.2.2.1
  have mono := hV.2.2.2.1
  refine ⟨?_, ?_, fun b hb => ?_, fun b hb => ?_, fun i hi => ?_⟩
  · rw [ol _ (by omega) (by omega), k1 _ (by omega)]; exact h1
  · rw [zm_II, if_neg (by omega), zm_II, if_pos ⟨rfl, rfl⟩]; rfl
  · have hb' : b < zp_nb Q := hb
    show _ = nI ((if b + 1 = zp_nb Q then zp_ni Q + 1 else zp_st Q (b + 1)) - (if b = zp_nb Q then zp_ni Q + 1 else zp_st Q b))
    rw [if_neg (show ¬ b = zp_nb Q by omega)]
    by_cases c : b + 1 = zp_nb Q
    · have := mono b hb'
      rw [c, hV.2.2.2.2.1] at this
      rw [if_pos c, show zp_nb Q - 1 = b by omega, zm_II, if_pos ⟨rfl, rfl⟩, c, hV.2.2.2.2.1, show zp_ni Q + 1 - zp_st Q b = zp_ni Q - zp_st Q b + 1 by omega]
    · rw [if_neg c, ol _ (by omega) (by omega), k1 _ (by omega)]; exact h3 b hb'
  · rw [ol _ (by omega) (by omega), ol _ (by omega) (by omega), ol _ (by omega) (by omega), ol _ (by omega) (by omega), k1 _ (by omega), k1 _ (by omega), k1 _ (by omega), k1 _ (by omega)]
    exact h4 b hb
  · have hi' : i < zp_ni Q + 1 := hi
    rw [ol _ (by omega) (by omega), ol _ (by omega) (by omega), ol _ (by omega) (by omega), ol _ (by omega) (by omega), ol _ (by omega) (by omega)]
    unfold zp_k zp_t zp_l zp_o zp_r
    have eq : (zQ_app Q q).2.2.2.2 i = if i = zp_ni Q then q else Q.2.2.2.2 i := rfl
    rw [eq]
    by_cases c : i = zp_ni Q
    · rw [if_pos c, c]; exact ⟨v0, v1, v2, v3, v4⟩
    · rw [if_neg c, k1 _ (by omega), k1 _ (by omega), k1 _ (by omega), k1 _ (by omega), k1 _ (by omega)]
      exact h5 i (by omega)
theorem kR_close (W : zt_W M 0) (hH : kR_H M Q m) (hV : zQ_V Q m) (hm : m + 1 = zp_nb Q) (q : Nat × Nat × Nat × Nat) : ∃ M', ff_M_exits 52 (nI m) (nI q.1) (nI q.2.1) (nI q.2.2.1) (nI q.2.2.2) M = some M' ∧ zt_E 0 M M' ∧ kR_H M' (zp_setx Q (zp_nb Q - 1) q) (m + 1) := by
  have h12 := hV.1
  obtain ⟨M1, e1, f1, k1, v1, v2, v3, v4⟩ := zt_exits W (b := m) (by omega) (w := q.1) (x := q.2.1) (f := q.2.2.1) (s := q.2.2.2)
  refine ⟨M1, e1, ⟨f1, fun k hk => k1 k (by omega)⟩, ?_⟩
  obtain ⟨h1, h2, h3, h4, h5⟩ := hH
  refine ⟨(k1 _ (by omega)).trans h1, (k1 _ (by omega)).trans h2, fun b hb => (k1 _ (by omega)).trans (h3 b hb), fun b hb => ?_, fun i hi => ?_⟩
  · have e : (zp_setx Q (zp_nb Q - 1) q).2.2.2.1 b = if b = zp_nb Q - 1 then q else Q.2.2.2.1 b := rfl
    unfold zp_w zp_f zp_x zp_s
    rw [e]
    by_cases c : b = zp_nb Q - 1
    · rw [if_pos c, show b = m by omega]; exact ⟨v1, fun _ => v2, fun _ => v3, fun _ => v4⟩
    · rw [if_neg c, k1 _ (by omega), k1 _ (by omega), k1 _ (by omega), k1 _ (by omega)]
      exact h4 b (by omega)
  · rw [k1 _ (by omega), k1 _ (by omega), k1 _ (by omega), k1 _ (by omega), k1 _ (by omega)]
    exact h5 i hi
end ZRHK
/-! ===== the reference's rows ===== -/
def zi_S (M M' : mm_T) (kd len j : Nat) : Prop := mm_n M' = mm_n M + 1 ∧ mm_c M' = mm_c M + 1 ∧ mm_u M' = mm_u M + len ∧ (∀ a, a ≤ mm_n M → mm_k M' a = mm_k M a) ∧ mm_k M' (mm_n M + 1) = (kd, len) ∧ (∀ a i, a ≤ mm_n M → mm_R M' a i = if a = 52 ∧ i = j then mm_n M + 1 else mm_R M a i) ∧ (∀ a i, a ≤ mm_n M → mm_I M' a i = mm_I M a i) ∧ ∀ i, mm_I M' (mm_n M + 1) i = 0
theorem zi_Sm {M : mm_T} (kd len j : Nat) (h : 52 ≤ mm_n M) : zi_S M (mm_sR (mm_al M (kd, len) len) 52 j (mm_n M + 1)) kd len j := by
  refine ⟨rfl, rfl, rfl, fun a ha => ?_, zu_alk M (kd, len) len, fun a i ha => ?_, fun a i ha => ?_, fun i => zu_alI M (kd, len) len i⟩
  · show mm_k (mm_al M (kd, len) len) a = mm_k M a
    unfold mm_k
    have n1 : mm_n (mm_al M (kd, len) len) = mm_n M + 1 := rfl
    rw [n1, (mm_al_same ha).1]
    by_cases c : 1 ≤ a
    · rw [if_pos ⟨c, by omega⟩, if_pos ⟨c, ha⟩]
    · rw [if_neg (fun z => c z.1), if_neg (fun z => c z.1)]
  · rw [zm_RR, (mm_al_same (kd := (kd, len)) (w := len) ha).2.2.2]
  · show mm_I (mm_al M (kd, len) len) a i = _
    rw [(mm_al_same ha).2.1]
theorem zi_row {ρ : Type} {M : mm_T} {kd len j : Nat} {K : mm_T → Option ρ} (ht : (mm_k M 52).1 = 11) (htn : 52 ≤ mm_n M) (hl : len ≤ 100000) (hB : mm_n M + 1 < st_B) : (bd_2 (na_K kd M (nI len)) fun x M1 => (pf_R M1 52 11 j x).bind K) = K (mm_sR (mm_al M (kd, len) len) 52 j (mm_n M + 1)) := by
  rw [zu_na hl hB]
  show ((pf_R (mm_al M (kd, len) len) 52 11 j (mm_n M + 1)).bind K) = _
  have e : pf_R (mm_al M (kd, len) len) 52 11 j (mm_n M + 1) = some (mm_sR (mm_al M (kd, len) len) 52 j (mm_n M + 1)) := by
    have k := (zi_Sm kd len j htn).2.2.2.1 52 htn
    have k' : mm_k (mm_al M (kd, len) len) 52 = mm_k M 52 := k
    exact if_pos ⟨by rw [k', ht], by show mm_n M + 1 ≤ mm_n M + 1; omega⟩
  rw [e, Option.bind_some]
/-- what the rows leave -/
def zi_W (M0 M : mm_T) : Prop := mm_n M = 62 ∧ mm_c M = mm_c M0 + 10 ∧ mm_u M = mm_u M0 + 4482 ∧ zt_R M ∧ (∀ a, a ≤ 51 → mm_k M a = mm_k M0 a ∧ (∀ i, mm_R M a i = mm_R M0 a i) ∧ ∀ i, mm_I M a i = mm_I M0 a i) ∧ (∀ i, mm_I M 52 i = if i = 17 then -1 else mm_I M0 52 i) ∧ (∀ i, mm_I M 53 i = 0) ∧ ∀ i, mm_I M 54 i = 0
theorem zi_rows {ρ : Type} {M0 : mm_T} (hn : mm_n M0 = 52) (hk : mm_k M0 52 = (11, 0)) (K : mm_T → Option ρ) : ∃ M, zi_W M0 M ∧ (bd_2 (na_K 20 M0 (2620 : Int32)) fun x1 P1 => (pf_R P1 52 11 0 x1).bind fun N1 => bd_2 (na_K 22 N1 (2 : Int32)) fun x2 P2 => (pf_R P2 52 11 1 x2).bind fun N2 => bd_2 (na_K 22 N2 (12 : Int32)) fun x3 P3 => (pf_R P3 52 11 5 x3).bind fun N3 => bd_2 (na_K 22 N3 (12 : Int32)) fun x4 P4 => (pf_R P4 52 11 6 x4).bind fun N4 => bd_2 (na_K 20 N4 (96 : Int32)) fun x5 P5 => (pf_R P5 52 11 7 x5).bind fun N5 => bd_2 (na_K 20 N5 (8 : Int32)) fun x6 P6 => (pf_R P6 52 11 8 x6).bind fun N6 => bd_2 (na_K 20 N6 (8 : Int32)) fun x7 P7 => (pf_R P7 52 11 9 x7).bind fun N7 => bd_2 (na_K 20 N7 (700 : Int32)) fun x8 P8 => (pf_R P8 52 11 14 x8).bind fun N8 => (pf_I N8 52 11 17 (-1 : Int32)).bind fun N8p => bd_2 (na_K 20 N8p (24 : Int32)) fun x9 P9 => (pf_R P9 52 11 22 x9).bind fun N9 => bd_2 (na_K 20 N9 (1000 : Int32)) fun x10 P10 => (pf_R P10 52 11 23 x10).bind fun N10 => K N10) = K M := by
  have k0 : (mm_k M0 52).1 = 11 := by rw [hk]
  rw [show (2620 : Int32) = nI 2620 from rfl, zi_row (kd := 20) (len := 2620) k0 (by omega) (by omega) (by rw [hn]; decide)]
  have s1 := zi_Sm 20 2620 0 (M := M0) (by omega)
  generalize mm_sR (mm_al M0 (20, 2620) 2620) 52 0 (mm_n M0 + 1) = N1 at s1 ⊢
  obtain ⟨n1, c1, u1, a1, b1, r1, i1, z1⟩ := s1
  rw [hn] at n1 a1 b1 r1 i1 z1
  have k1 : (mm_k N1 52).1 = 11 := by rw [a1 52 (by omega)]; exact k0
  rw [show (2 : Int32) = nI 2 from rfl, zi_row (kd := 22) (len := 2) k1 (by omega) (by omega) (by rw [n1]; decide)]
  have s2 := zi_Sm 22 2 1 (M := N1) (by omega)
  generalize mm_sR (mm_al N1 (22, 2) 2) 52 1 (mm_n N1 + 1) = N2 at s2 ⊢
  obtain ⟨n2, c2, u2, a2, b2, r2, i2, z2⟩ := s2
  rw [n1] at n2 a2 b2 r2 i2 z2
  have k2 : (mm_k N2 52).1 = 11 := by rw [a2 52 (by omega)]; exact k1
  rw [show (12 : Int32) = nI 12 from rfl, zi_row (kd := 22) (len := 12) k2 (by omega) (by omega) (by rw [n2]; decide)]
  have s3 := zi_Sm 22 12 5 (M := N2) (by omega)
  generalize mm_sR (mm_al N2 (22, 12) 12) 52 5 (mm_n N2 + 1) = N3 at s3 ⊢
  obtain ⟨n3, c3, u3, a3, b3, r3, i3, z3⟩ := s3
  rw [n2] at n3 a3 b3 r3 i3 z3
  have k3 : (mm_k N3 52).1 = 11 := by rw [a3 52 (by omega)]; exact k2
  rw [zi_row (kd := 22) (len := 12) k3 (by omega) (by omega) (by rw [n3]; decide)]
  have s4 := zi_Sm 22 12 6 (M := N3) (by omega)
  generalize mm_sR (mm_al N3 (22, 12) 12) 52 6 (mm_n N3 + 1) = N4 at s4 ⊢
  obtain ⟨n4, c4, u4, a4, b4, r4, i4, z4⟩ := s4
  rw [n3] at n4 a4 b4 r4 i4 z4
  have k4 : (mm_k N4 52).1 = 11 := by rw [a4 52 (by omega)]; exact k3
  rw [show (96 : Int32) = nI 96 from rfl, zi_row (kd := 20) (len := 96) k4 (by omega) (by omega) (by rw [n4]; decide)]
  have s5 := zi_Sm 20 96 7 (M := N4) (by omega)
  generalize mm_sR (mm_al N4 (20, 96) 96) 52 7 (mm_n N4 + 1) = N5 at s5 ⊢
  obtain ⟨n5, c5, u5, a5, b5, r5, i5, z5⟩ := s5
  rw [n4] at n5 a5 b5 r5 i5 z5
  have k5 : (mm_k N5 52).1 = 11 := by rw [a5 52 (by omega)]; exact k4
  rw [show (8 : Int32) = nI 8 from rfl, zi_row (kd := 20) (len := 8) k5 (by omega) (by omega) (by rw [n5]; decide)]
  have s6 := zi_Sm 20 8 8 (M := N5) (by omega)
  generalize mm_sR (mm_al N5 (20, 8) 8) 52 8 (mm_n N5 + 1) = N6 at s6 ⊢
  obtain ⟨n6, c6, u6, a6, b6, r6, i6, z6⟩ := s6
  rw [n5] at n6 a6 b6 r6 i6 z6
  have k6 : (mm_k N6 52).1 = 11 := by rw [a6 52 (by omega)]; exact k5
  rw [zi_row (kd := 20) (len := 8) k6 (by omega) (by omega) (by rw [n6]; decide)]
  have s7 := zi_Sm 20 8 9 (M := N6) (by omega)
  generalize mm_sR (mm_al N6 (20, 8) 8) 52 9 (mm_n N6 + 1) = N7 at s7 ⊢
  obtain ⟨n7, c7, u7, a7, b7, r7, i7, z7⟩ := s7
  rw [n6] at n7 a7 b7 r7 i7 z7
  have k7 : (mm_k N7 52).1 = 11 := by rw [a7 52 (by omega)]; exact k6
  rw [show (700 : Int32) = nI 700 from rfl, zi_row (kd := 20) (len := 700) k7 (by omega) (by omega) (by rw [n7]; decide)]
  have s8 := zi_Sm 20 700 14 (M := N7) (by omega)
  generalize mm_sR (mm_al N7 (20, 700) 700) 52 14 (mm_n N7 + 1) = N8 at s8 ⊢
  obtain ⟨n8, c8, u8, a8, b8, r8, i8, z8⟩ := s8
  rw [n7] at n8 a8 b8 r8 i8 z8
  have k8 : (mm_k N8 52).1 = 11 := by rw [a8 52 (by omega)]; exact k7
  rw [zp_I k8, Option.bind_some]
  have f8 := zf_I1 N8 52 17 (-1)
  have k8p : (mm_k (mm_sI N8 52 17 (-1)) 52).1 = 11 := by rw [zf_k f8]; exact k8
  have n8p := f8.1.trans n8
  have a8p : ∀ a, mm_k (mm_sI N8 52 17 (-1)) a = mm_k N8 a := fun a => by rw [zf_k f8]
  have r8p : ∀ a i, mm_R (mm_sI N8 52 17 (-1)) a i = mm_R N8 a i := fun a i => by rw [zf_R f8]
  have c8p := f8.2.1
  have u8p := f8.2.2.1
  have i8p : ∀ a i, mm_I (mm_sI N8 52 17 (-1)) a i = if a = 52 ∧ i = 17 then -1 else mm_I N8 a i := fun a i => by rw [zm_II]
  clear f8
  generalize mm_sI N8 52 17 (-1) = N8p at k8p n8p a8p r8p c8p u8p i8p ⊢
  rw [show (24 : Int32) = nI 24 from rfl, zi_row (kd := 20) (len := 24) k8p (by omega) (by omega) (by rw [n8p]; decide)]
  have s9 := zi_Sm 20 24 22 (M := N8p) (by omega)
  generalize mm_sR (mm_al N8p (20, 24) 24) 52 22 (mm_n N8p + 1) = N9 at s9 ⊢
  obtain ⟨n9, c9, u9, a9, b9, r9, i9, z9⟩ := s9
  rw [n8p] at n9 a9 b9 r9 i9 z9
  have k9 : (mm_k N9 52).1 = 11 := by rw [a9 52 (by omega)]; exact k8p
  rw [show (1000 : Int32) = nI 1000 from rfl, zi_row (kd := 20) (len := 1000) k9 (by omega) (by omega) (by rw [n9]; decide)]
  have s10 := zi_Sm 20 1000 23 (M := N9) (by omega)
  generalize mm_sR (mm_al N9 (20, 1000) 1000) 52 23 (mm_n N9 + 1) = N10 at s10 ⊢
  obtain ⟨n10, c10, u10, a10, b10, r10, i10, z10⟩ := s10
  rw [n9] at n10 a10 b10 r10 i10 z10
  have k10 : (mm_k N10 52).1 = 11 := by rw [a10 52 (by omega)]; exact k9
  refine ⟨N10, ⟨by omega, by omega, by omega, ?_, fun a ha => ⟨?_, fun i => ?_, fun i => ?_⟩, fun i => ?_, fun i => ?_, fun i => ?_⟩, rfl⟩
  · refine ⟨?_, ⟨?_, ?_, ?_, ?_, ?_, ?_, ?_, ?_, ?_, ?_⟩, ?_, ?_, ?_, ?_, ?_, ?_, ?_, ?_, ?_, ?_⟩
    · rw [a10 _ (by omega), a9 _ (by omega), a8p, a8 _ (by omega), a7 _ (by omega), a6 _ (by omega), a5 _ (by omega), a4 _ (by omega), a3 _ (by omega), a2 _ (by omega), a1 _ (by omega), hk]
    · rw [r10 _ _ (by omega), if_neg (by omega), r9 _ _ (by omega), if_neg (by omega), r8p, r8 _ _ (by omega), if_neg (by omega), r7 _ _ (by omega), if_neg (by omega), r6 _ _ (by omega), if_neg (by omega), r5 _ _ (by omega), if_neg (by omega), r4 _ _ (by omega), if_neg (by omega), r3 _ _ (by omega), if_neg (by omega), r2 _ _ (by omega), if_neg (by omega), r1 _ _ (by omega), if_pos ⟨rfl, rfl⟩]
    · rw [r10 _ _ (by omega), if_neg (by omega), r9 _ _ (by omega), if_neg (by omega), r8p, r8 _ _ (by omega), if_neg (by omega), r7 _ _ (by omega), if_neg (by omega), r6 _ _ (by omega), if_neg (by omega), r5 _ _ (by omega), if_neg (by omega), r4 _ _ (by omega), if_neg (by omega), r3 _ _ (by omega), if_neg (by omega), r2 _ _ (by omega), if_pos ⟨rfl, rfl⟩]
    · rw [r10 _ _ (by omega), if_neg (by omega), r9 _ _ (by omega), if_neg (by omega), r8p, r8 _ _ (by omega), if_neg (by omega), r7 _ _ (by omega), if_neg (by omega), r6 _ _ (by omega), if_neg (by omega), r5 _ _ (by omega), if_neg (by omega), r4 _ _ (by omega), if_neg (by omega), r3 _ _ (by omega), if_pos ⟨rfl, rfl⟩]
    · rw [r10 _ _ (by omega), if_neg (by omega), r9 _ _ (by omega), if_neg (by omega), r8p, r8 _ _ (by omega), if_neg (by omega), r7 _ _ (by omega), if_neg (by omega), r6 _ _ (by omega), if_neg (by omega), r5 _ _ (by omega), if_neg (by omega), r4 _ _ (by omega), if_pos ⟨rfl, rfl⟩]
    · rw [r10 _ _ (by omega), if_neg (by omega), r9 _ _ (by omega), if_neg (by omega), r8p, r8 _ _ (by omega), if_neg (by omega), r7 _ _ (by omega), if_neg (by omega), r6 _ _ (by omega), if_neg (by omega), r5 _ _ (by omega), if_pos ⟨rfl, rfl⟩]
    · rw [r10 _ _ (by omega), if_neg (by omega), r9 _ _ (by omega), if_neg (by omega), r8p, r8 _ _ (by omega), if_neg (by omega), r7 _ _ (by omega), if_neg (by omega), r6 _ _ (by omega), if_pos ⟨rfl, rfl⟩]
    · rw [r10 _ _ (by omega), if_neg (by omega), r9 _ _ (by omega), if_neg (by omega), r8p, r8 _ _ (by omega), if_neg (by omega), r7 _ _ (by omega), if_pos ⟨rfl, rfl⟩]
    · rw [r10 _ _ (by omega), if_neg (by omega), r9 _ _ (by omega), if_neg (by omega), r8p, r8 _ _ (by omega), if_pos ⟨rfl, rfl⟩]
    · rw [r10 _ _ (by omega), if_neg (by omega), r9 _ _ (by omega), if_pos ⟨rfl, rfl⟩]
    · rw [r10 _ _ (by omega), if_pos ⟨rfl, rfl⟩]
    · rw [a10 _ (by omega), a9 _ (by omega), a8p, a8 _ (by omega), a7 _ (by omega), a6 _ (by omega), a5 _ (by omega), a4 _ (by omega), a3 _ (by omega), a2 _ (by omega)]; exact b1
    · rw [a10 _ (by omega), a9 _ (by omega), a8p, a8 _ (by omega), a7 _ (by omega), a6 _ (by omega), a5 _ (by omega), a4 _ (by omega), a3 _ (by omega)]; exact b2
    · rw [a10 _ (by omega), a9 _ (by omega), a8p, a8 _ (by omega), a7 _ (by omega), a6 _ (by omega), a5 _ (by omega), a4 _ (by omega)]; exact b3
    · rw [a10 _ (by omega), a9 _ (by omega), a8p, a8 _ (by omega), a7 _ (by omega), a6 _ (by omega), a5 _ (by omega)]; exact b4
    · rw [a10 _ (by omega), a9 _ (by omega), a8p, a8 _ (by omega), a7 _ (by omega), a6 _ (by omega)]; exact b5
    · rw [a10 _ (by omega), a9 _ (by omega), a8p, a8 _ (by omega), a7 _ (by omega)]; exact b6
    · rw [a10 _ (by omega), a9 _ (by omega), a8p, a8 _ (by omega)]; exact b7
    · rw [a10 _ (by omega), a9 _ (by omega), a8p]; exact b8
    · rw [a10 _ (by omega)]; exact b9
    · exact b10
  · rw [a10 _ (by omega), a9 _ (by omega), a8p, a8 _ (by omega), a7 _ (by omega), a6 _ (by omega), a5 _ (by omega), a4 _ (by omega), a3 _ (by omega), a2 _ (by omega), a1 _ (by omega)]
  · rw [r10 _ _ (by omega), if_neg (by omega), r9 _ _ (by omega), if_neg (by omega), r8p, r8 _ _ (by omega), if_neg (by omega), r7 _ _ (by omega), if_neg (by omega), r6 _ _ (by omega), if_neg (by omega), r5 _ _ (by omega), if_neg (by omega), r4 _ _ (by omega), if_neg (by omega), r3 _ _ (by omega), if_neg (by omega), r2 _ _ (by omega), if_neg (by omega), r1 _ _ (by omega), if_neg (by omega)]
  · rw [i10 _ _ (by omega), i9 _ _ (by omega), i8p, if_neg (by omega), i8 _ _ (by omega), i7 _ _ (by omega), i6 _ _ (by omega), i5 _ _ (by omega), i4 _ _ (by omega), i3 _ _ (by omega), i2 _ _ (by omega), i1 _ _ (by omega)]
  · rw [i10 _ _ (by omega), i9 _ _ (by omega), i8p]
    by_cases c : i = 17
    · rw [if_pos ⟨rfl, c⟩, if_pos c]
    · rw [if_neg (fun z => c z.2), if_neg c, i8 _ _ (by omega), i7 _ _ (by omega), i6 _ _ (by omega), i5 _ _ (by omega), i4 _ _ (by omega), i3 _ _ (by omega), i2 _ _ (by omega), i1 _ _ (by omega)]
  · rw [i10 _ _ (by omega), i9 _ _ (by omega), i8p, if_neg (by omega), i8 _ _ (by omega), i7 _ _ (by omega), i6 _ _ (by omega), i5 _ _ (by omega), i4 _ _ (by omega), i3 _ _ (by omega), i2 _ _ (by omega)]; exact z1 i
  · rw [i10 _ _ (by omega), i9 _ _ (by omega), i8p, if_neg (by omega), i8 _ _ (by omega), i7 _ _ (by omega), i6 _ _ (by omega), i5 _ _ (by omega), i4 _ _ (by omega), i3 _ _ (by omega)]; exact z2 i
