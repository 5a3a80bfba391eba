/-! ===== the reference's program in the making ===== -/
def zR_H (M : mm_T) (Q : zp_T) (m : Nat) : Prop := mm_I M 53 (262 * 9 + 0) = nI (zp_nb Q) ∧ mm_I M 53 (262 * 9 + 1) = nI (zp_ni Q) ∧ (∀ b, b < zp_nb Q → mm_I M 53 (262 * 9 + (2 + 5 * b + 0)) = nI (zp_st Q (b + 1) - zp_st Q b)) ∧ (∀ b, b < m → mm_I M 53 (262 * 9 + (2 + 5 * b + 1)) = nI (zp_w Q b) ∧ (zp_w Q b = 2 → mm_I M 53 (262 * 9 + (2 + 5 * b + 2)) = nI (zp_x Q b)) ∧ (1 ≤ zp_w Q b → mm_I M 53 (262 * 9 + (2 + 5 * b + 3)) = nI (zp_f Q b)) ∧ (zp_w Q b = 2 → mm_I M 53 (262 * 9 + (2 + 5 * b + 4)) = nI (zp_s Q b))) ∧ ∀ i, i < zp_ni Q → mm_I M 53 (262 * 9 + (62 + 5 * i + 0)) = nI (zp_k Q i) ∧ mm_I M 53 (262 * 9 + (62 + 5 * i + 1)) = nI (zp_t Q i) ∧ mm_I M 53 (262 * 9 + (62 + 5 * i + 2)) = nI (zp_l Q i) ∧ mm_I M 53 (262 * 9 + (62 + 5 * i + 3)) = nI (zp_o Q i) ∧ mm_I M 53 (262 * 9 + (62 + 5 * i + 4)) = nI (zp_r Q i)
theorem zR_H.keep {M M' : mm_T} {Q : zp_T} {m : Nat} (h : zR_H M Q m) (hI : ∀ k, mm_I M' 53 k = mm_I M 53 k) : zR_H M' Q m := by
  unfold zR_H
  simp only [hI]
  exact h
theorem zR_H.fin {M : mm_T} {Q : zp_T} (h : zR_H M Q (zp_nb Q)) : zt_H M 9 Q := by
  obtain ⟨h1, h2, h3, h4, h5⟩ := h
  exact ⟨h1, h2, fun b hb => ⟨h3 b hb, h4 b hb⟩, h5⟩
section ZRH
variable {M : mm_T} {Q : zp_T} {m : Nat}
theorem zR_get0 (W : zt_W M 9) (hH : zR_H M Q m) : ff_M_get 52 0 M = some (nI (zp_nb Q)) := by
  rw [show (0 : Int32) = nI 0 from rfl, zt_get W.1 W.2.1 W.2.2 (by omega), hH.1]
theorem zR_get1 (W : zt_W M 9) (hH : zR_H M Q m) : ff_M_get 52 1 M = some (nI (zp_ni Q)) := by
  rw [show (1 : Int32) = nI 1 from rfl, zt_get W.1 W.2.1 W.2.2 (by omega), hH.2.1]
theorem zR_newBlock (W : zt_W M 9) (hH : zR_H M Q m) (hV : zQ_V Q m) (h12 : zp_nb Q < 12) : ∃ M', ff_M_newBlock 52 M = some M' ∧ zt_E 9 M M' ∧ zR_H M' (zQ_add Q) m := by
  have e1 := zt_layB W h12 (f := 0) (by omega) 0
  have f1 := zt_E_1 (o := 9) M (k := 2 + 5 * zp_nb Q + 0) 0 (by omega)
  have W1 := W.keep f1.1
  have g0 : mm_I (mm_sI M 53 (262 * 9 + (2 + 5 * zp_nb Q + 0)) 0) 53 (262 * 9 + 0) = nI (zp_nb Q) := by rw [zm_II, if_neg (by omega), hH.1]
  have e2 : ff_M_get 52 0 (mm_sI M 53 (262 * 9 + (2 + 5 * zp_nb Q + 0)) 0) = some (nI (zp_nb Q)) := by
    rw [show (0 : Int32) = nI 0 from rfl, show nI 0 = (0 : Int32) from rfl]
    have := zt_get W1.1 W1.2.1 W1.2.2 (w := 0) (by omega)
    rw [g0] at this
    exact this
  have e3 := zt_lay W1.1 W1.2.1 W1.2.2 (w := 0) (by omega) (nI (zp_nb Q + 1))
  have f2 := zt_E_tr f1 (zt_E_1 (o := 9) _ (k := 0) (nI (zp_nb Q + 1)) (by omega))
  have e1' : ff_M_layBlock 52 (nI (zp_nb Q)) 0 0 M = _ := e1
  have e3' : ff_M_lay 52 0 (nI (zp_nb Q + 1)) (mm_sI M 53 (262 * 9 + (2 + 5 * zp_nb Q + 0)) 0) = _ := e3
  unfold ff_M_newBlock
  rw [zq_gd (zt_We W), zR_get0 W hH, Option.bind_some, e1', Option.bind_some, e2, Option.bind_some, nI_1, e3', Option.bind_some]
  refine ⟨_, rfl, f2, ?_⟩
  obtain ⟨h1, h2, h3, h4, h5⟩ := hH
  have ol : ∀ k, k ≠ 262 * 9 + 0 → k ≠ 262 * 9 + (2 + 5 * zp_nb Q + 0) → mm_I (mm_sI (mm_sI M 53 (262 * 9 + (2 + 5 * zp_nb Q + 0)) 0) 53 (262 * 9 + 0) (nI (zp_nb Q + 1))) 53 k = mm_I M 53 k := fun k q1 q2 => by rw [zm_II, if_neg (fun z => q1 z.2), zm_II, if_neg (fun z => q2 z.2)]
  have hm := hV.2.2.2.2.2.1
  refine ⟨?_, ?_, fun b hb => ?_, fun b hb => ?_, fun i hi => ?_⟩
  · rw [zm_II, if_pos ⟨rfl, rfl⟩]; rfl
  · rw [ol _ (by omega) (by omega)]; exact h2
  · have hb' : b < zp_nb Q + 1 := hb
    show _ = nI ((if b + 1 = zp_nb Q + 1 then zp_ni Q else zp_st Q (b + 1)) - (if b = zp_nb Q + 1 then zp_ni Q else zp_st Q b))
    rw [if_neg (show ¬ b = zp_nb Q + 1 by omega)]
    by_cases c : b = zp_nb Q
    · rw [if_pos (by omega), c, zm_II, if_neg (by omega), zm_II, if_pos ⟨rfl, rfl⟩, hV.2.2.2.2.1, Nat.sub_self]; rfl
    · rw [if_neg (by omega), ol _ (by omega) (by omega)]; exact h3 b (by omega)
  · rw [ol _ (by omega) (by omega), ol _ (by omega) (by omega), ol _ (by omega) (by omega), ol _ (by omega) (by omega)]
    exact h4 b hb
  · rw [ol _ (by omega) (by have := hV.1; omega), ol _ (by omega) (by omega), ol _ (by omega) (by omega), ol _ (by omega) (by omega), ol _ (by omega) (by omega)]
    exact h5 i hi
theorem zR_newItem (W : zt_W M 9) (hH : zR_H M Q m) (hV : zQ_V Q m) (h40 : zp_ni Q < 40) (hnb : 1 ≤ zp_nb Q) (q : Nat × Nat × Nat × Nat × Nat) : ∃ M', ff_M_newItem 52 (nI q.1) (nI q.2.1) (nI q.2.2.1) (nI q.2.2.2.1) (nI q.2.2.2.2) M = some M' ∧ zt_E 9 M M' ∧ zR_H M' (zQ_app Q q) m := by
  have h12 := hV.1
  obtain ⟨M1, e1, f1, k1, v0, v1, v2, v3, v4⟩ := zt_writes W h40 (k := q.1) (t := q.2.1) (l := q.2.2.1) (c := q.2.2.2.1) (r := q.2.2.2.2)
  have E1 : zt_E 9 M M1 := ⟨f1, fun k hk => k1 k (by omega)⟩
  have W1 := W.keep f1
  have a1 : ff_M_get 52 1 M1 = some (nI (zp_ni Q)) := by
    have := zt_get W1.1 W1.2.1 W1.2.2 (w := 1) (by omega)
    rw [k1 _ (by omega), hH.2.1] at this
    exact this
  have e2 := zt_lay W1.1 W1.2.1 W1.2.2 (w := 1) (by omega) (nI (zp_ni Q + 1))
  have e2' : ff_M_lay 52 1 (nI (zp_ni Q + 1)) M1 = _ := e2
  have E2 := zt_E_tr E1 (zt_E_1 (o := 9) M1 (k := 1) (nI (zp_ni Q + 1)) (by omega))
  have W2 := W1.keep (zt_f53 M1 (262 * 9 + 1) (nI (zp_ni Q + 1)))
  have a2 : ff_M_get 52 0 (mm_sI M1 53 (262 * 9 + 1) (nI (zp_ni Q + 1))) = some (nI (zp_nb Q)) := by
    have := zt_get W2.1 W2.2.1 W2.2.2 (w := 0) (by omega)
    rw [zm_II, if_neg (by omega), k1 _ (by omega), hH.1] at this
    exact this
  have a3 : ff_M_bl 52 (nI (zp_nb Q - 1)) 0 (mm_sI M1 53 (262 * 9 + 1) (nI (zp_ni Q + 1))) = some (nI (zp_st Q (zp_nb Q - 1 + 1) - zp_st Q (zp_nb Q - 1))) := by
    have := zt_bl0 W2.1 W2.2.1 W2.2.2 (b := zp_nb Q - 1) (f := 0) (by omega) (by omega)
    rw [zm_II, if_neg (by omega), k1 _ (by omega), hH.2.2.1 _ (by omega)] at this
    exact this
  have e3 := zt_layB W2 (b := zp_nb Q - 1) (f := 0) (by omega) (by omega) (nI (zp_st Q (zp_nb Q - 1 + 1) - zp_st Q (zp_nb Q - 1) + 1))
  have e3' : ff_M_layBlock 52 (nI (zp_nb Q - 1)) 0 (nI (zp_st Q (zp_nb Q - 1 + 1) - zp_st Q (zp_nb Q - 1) + 1)) (mm_sI M1 53 (262 * 9 + 1) (nI (zp_ni Q + 1))) = _ := e3
  have E3 := zt_E_tr E2 (zt_E_1 (o := 9) (mm_sI M1 53 (262 * 9 + 1) (nI (zp_ni Q + 1))) (k := 2 + 5 * (zp_nb Q - 1) + 0) (nI (zp_st Q (zp_nb Q - 1 + 1) - zp_st Q (zp_nb Q - 1) + 1)) (by omega))
  unfold ff_M_newItem
  rw [zq_gd (zt_We W), zR_get1 W hH, Option.bind_some, e1, Option.bind_some, a1, Option.bind_some, nI_1, e2', Option.bind_some, a2, Option.bind_some]
  have es : nI (zp_nb Q) - (1 : Int32) = nI (zp_nb Q - 1) := zi_sub (b := 1) (by omega)
  rw [es, Option.bind_some, a3, Option.bind_some, nI_1, e3', Option.bind_some]
  refine ⟨_, rfl, E3, ?_⟩
  obtain ⟨h1, h2, h3, h4, h5⟩ := hH
  have ol : ∀ k, k ≠ 262 * 9 + 1 → k ≠ 262 * 9 + (2 + 5 * (zp_nb Q - 1) + 0) → mm_I (mm_sI (mm_sI M1 53 (262 * 9 + 1) (nI (zp_ni Q + 1))) 53 (262 * 9 + (2 + 5 * (zp_nb Q - 1) + 0)) (nI (zp_st Q (zp_nb Q - 1 + 1) - zp_st Q (zp_nb Q - 1) + 1))) 53 k = mm_I M1 53 k := fun k q1 q2 => by rw [zm_II, if_neg (fun z => q2 z.2), zm_II, if_neg (fun z => q1 z.2)]
  have hm := hV.2.2.2.2.2.1
  have mono := hV.2.2.2.1
  refine ⟨?_, ?_, fun b hb => ?_, fun b hb => ?_, fun i hi => ?_⟩
  · rw [ol _ (by omega) (by omega), k1 _ (by omega)]; exact h1
  · rw [zm_II, if_neg (by omega), zm_II, if_pos ⟨rfl, rfl⟩]; rfl
  · have hb' : b < zp_nb Q := hb
    show _ = nI ((if b + 1 = zp_nb Q then zp_ni Q + 1 else zp_st Q (b + 1)) - (if b = zp_nb Q then zp_ni Q + 1 else zp_st Q b))
    rw [if_neg (show ¬ b = zp_nb Q by omega)]
    by_cases c : b + 1 = zp_nb Q
    · have := mono b hb'
      rw [c, hV.2.2.2.2.1] at this
      rw [if_pos c, show zp_nb Q - 1 = b by omega, zm_II, if_pos ⟨rfl, rfl⟩, c, hV.2.2.2.2.1, show zp_ni Q + 1 - zp_st Q b = zp_ni Q - zp_st Q b + 1 by omega]
    · rw [if_neg c, ol _ (by omega) (by omega), k1 _ (by omega)]; exact h3 b hb'
  · rw [ol _ (by omega) (by omega), ol _ (by omega) (by omega), ol _ (by omega) (by omega), ol _ (by omega) (by omega), k1 _ (by omega), k1 _ (by omega), k1 _ (by omega), k1 _ (by omega)]
    exact h4 b hb
  · have hi' : i < zp_ni Q + 1 := hi
    rw [ol _ (by omega) (by omega), ol _ (by omega) (by omega), ol _ (by omega) (by omega), ol _ (by omega) (by omega), ol _ (by omega) (by omega)]
    unfold zp_k zp_t zp_l zp_o zp_r
    have eq : (zQ_app Q q).2.2.2.2 i = if i = zp_ni Q then q else Q.2.2.2.2 i := rfl
    rw [eq]
    by_cases c : i = zp_ni Q
    · rw [if_pos c, c]; exact ⟨v0, v1, v2, v3, v4⟩
    · rw [if_neg c, k1 _ (by omega), k1 _ (by omega), k1 _ (by omega), k1 _ (by omega), k1 _ (by omega)]
      exact h5 i (by omega)
theorem zR_close (W : zt_W M 9) (hH : zR_H M Q m) (hV : zQ_V Q m) (hm : m + 1 = zp_nb Q) (q : Nat × Nat × Nat × Nat) : ∃ M', ff_M_exits 52 (nI m) (nI q.1) (nI q.2.1) (nI q.2.2.1) (nI q.2.2.2) M = some M' ∧ zt_E 9 M M' ∧ zR_H M' (zp_setx Q (zp_nb Q - 1) q) (m + 1) := by
  have h12 := hV.1
  obtain ⟨M1, e1, f1, k1, v1, v2, v3, v4⟩ := zt_exits W (b := m) (by omega) (w := q.1) (x := q.2.1) (f := q.2.2.1) (s := q.2.2.2)
  refine ⟨M1, e1, ⟨f1, fun k hk => k1 k (by omega)⟩, ?_⟩
  obtain ⟨h1, h2, h3, h4, h5⟩ := hH
  refine ⟨(k1 _ (by omega)).trans h1, (k1 _ (by omega)).trans h2, fun b hb => (k1 _ (by omega)).trans (h3 b hb), fun b hb => ?_, fun i hi => ?_⟩
  · have e : (zp_setx Q (zp_nb Q - 1) q).2.2.2.1 b = if b = zp_nb Q - 1 then q else Q.2.2.2.1 b := rfl
    unfold zp_w zp_f zp_x zp_s
    rw [e]
    by_cases c : b = zp_nb Q - 1
    · rw [if_pos c, show b = m by omega]; exact ⟨v1, fun _ => v2, fun _ => v3, fun _ => v4⟩
    · rw [if_neg c, k1 _ (by omega), k1 _ (by omega), k1 _ (by omega), k1 _ (by omega)]
      exact h4 b (by omega)
  · rw [k1 _ (by omega), k1 _ (by omega), k1 _ (by omega), k1 _ (by omega), k1 _ (by omega)]
    exact h5 i hi
end ZRH
