/-! ===== the reference: undo, snapshots, removeDead, foldConstants ===== -/
section ZYB5
variable {M : mm_T} {s : zy_T}
/-- a slot is copied over the program -/
theorem zy_copy0 {a : Nat} {Q : zp_T} (hR : zt_R M) (hO : mm_I M 52 2 = nI 0) (ha : 1 ≤ a) (ha9 : a ≤ 9) (hH : zt_H M a Q) (hV : zp_V Q) : ∃ M', ff_M_copies 52 (nI a) 0 M = some M' ∧ zt_E 0 M M' ∧ zt_S M' 0 Q := by
  obtain ⟨M', e, f, o, c⟩ := zt_copies hR (a := a) (b := 0) ha9 (by omega) (by omega)
  exact ⟨M', e, ⟨f, fun k hk => o k (by omega)⟩, hR.keep f, (zf_i f (by omega) 2).trans hO, by omega, hH.slot hV (fun k hk => c k hk), hV⟩
theorem zy_undoM (h : zy_M M s) : zy_Om (ff_M_undo 52 M) M (if (zy_u s).2 = 0 then ((1, 0), s) else ((0, nI ((zy_u s).2 - 1)), zy_back s)) := by
  have h0 := h.thr 0
  have k0 := h0.2.2.1
  unfold ff_M_undo
  rw [zq_gd (zt_e52 h.2.1), zp_I (zt_e52 h.2.1), Option.bind_some, zg_I (zt_e52 h0.2.1), Option.bind_some, k0.2.1]
  by_cases c : (zy_u s).2 = 0
  · rw [if_pos (by rw [c]; rfl), if_pos c, zp_I (zt_e52 h0.2.1), Option.bind_some]
    exact zy_OmI (zy_f4 M 0) (fun a z => by unfold zy_Ar; omega) (zy_thrM h0 (k := 1) (by omega))
  · have hn := k0.1
    rw [if_neg (nI_ne0 (by omega) (by omega)), if_neg c, Option.bind_some, show (1 : Int32) = nI 1 from rfl, zi_sub (by omega), zp_I (zt_e52 h0.2.1), Option.bind_some]
    have f1 : zf_F (mm_sI M 52 4 0) (mm_sI (mm_sI M 52 4 0) 52 3 (nI ((zy_u s).2 - 1))) (fun a => a = 52) := zf_I1 _ _ _ _
    have i1 : ∀ k, k ≠ 3 → mm_I (mm_sI (mm_sI M 52 4 0) 52 3 (nI ((zy_u s).2 - 1))) 52 k = mm_I (mm_sI M 52 4 0) 52 k := fun k hk => by rw [zm_II, if_neg (fun z => hk z.2)]
    have i3 : mm_I (mm_sI (mm_sI M 52 4 0) 52 3 (nI ((zy_u s).2 - 1))) 52 3 = nI ((zy_u s).2 - 1) := by rw [zm_II, if_pos ⟨rfl, rfl⟩]
    have t0 : mm_I (mm_sI M 52 4 0) 52 4 = nI 0 := by rw [zm_II, if_pos ⟨rfl, rfl⟩]; rfl
    generalize mm_sI (mm_sI M 52 4 0) 52 3 (nI ((zy_u s).2 - 1)) = M1 at f1 i1 i3 ⊢
    have hR1 := h0.2.1.1.keep f1
    have e52 : (mm_k M1 52).1 = 11 := by rw [hR1.1]
    obtain ⟨q1, q2⟩ := k0.2.2 0 (by omega)
    have q1' : zt_H M1 (zy_u s).2 ((zy_u s).1 0) := zt_H.slot q1 q2 (fun k hk => by rw [zf_i f1 (by omega)]; rfl)
    obtain ⟨M2, e2, g2, S2⟩ := zy_copy0 hR1 ((i1 2 (by omega)).trans h0.2.1.2.1) (show 1 ≤ (zy_u s).2 by omega) (by omega) q1' q2
    have e2' : ff_M_copies 52 (nI 1 + nI ((zy_u s).2 - 1)) 0 M1 = some M2 := by
      rw [nI_add, show 1 + ((zy_u s).2 - 1) = (zy_u s).2 by omega]
      exact e2
    have e52' : (mm_k M2 52).1 = 11 := by rw [S2.1.1]
    rw [zg_I e52, Option.bind_some, i3, e2', Option.bind_some, zg_I e52', Option.bind_some]
    have j3 : mm_I M2 52 3 = nI ((zy_u s).2 - 1) := by rw [zf_i g2.1 (by omega), i3]
    rw [j3]
    have j : ∀ a, a ≠ 52 → a ≠ 53 → ∀ k, mm_I M2 a k = mm_I (mm_sI M 52 4 0) a k := fun a z1 z2 k => by rw [zf_i g2.1 (by omega), zf_i f1 (by omega)]
    have j2 : ∀ k, k ≠ 3 → mm_I M2 52 k = mm_I (mm_sI M 52 4 0) 52 k := fun k hk => by rw [zf_i g2.1 (by omega), i1 k hk]
    have j53 : ∀ k, 262 ≤ k → mm_I M2 53 k = mm_I (mm_sI M 52 4 0) 53 k := fun k hk => by rw [g2.2 k (by omega), zf_i f1 (by omega)]
    obtain ⟨h63, hS, hK, hN, hx, he, ho⟩ := h0
    refine ⟨_, M2, rfl, zu_wk (zu_tr (zu_tr (zu_F (zf_mono (zy_f4 M 0) (fun a z => by unfold zy_Ar; omega))) (zu_F (zf_mono f1 (fun a z => by unfold zy_Ar; omega)))) (zy_edX g2)) (by omega) (by omega) (fun a z => z), ⟨by rw [g2.1.1, f1.1]; exact h63, S2, ⟨?_, j3, fun k hk => ?_⟩, ⟨(j 54 (by omega) (by omega) 0).trans hN.1, (j 54 (by omega) (by omega) 1).trans hN.2.1, fun Q e => ⟨zt_H.slot (hN.2.2.1 Q e).1 (hN.2.2.1 Q e).2 (fun k hk => j53 _ (by omega)), (hN.2.2.1 Q e).2⟩, fun Q e => ⟨zt_H.slot (hN.2.2.2 Q e).1 (hN.2.2.2 Q e).2 (fun k hk => j53 _ (by omega)), (hN.2.2.2 Q e).2⟩⟩, ⟨(j2 15 (by omega)).trans hx.1, hx.2.1, fun i hi => ⟨(j 60 (by omega) (by omega) i).trans (hx.2.2 i hi).1, (hx.2.2 i hi).2⟩⟩, ⟨(j2 16 (by omega)).trans he.1, (j2 17 (by omega)).trans he.2⟩, (j2 24 (by omega)).trans ho.1, ho.2.1, fun i hi => (j 62 (by omega) (by omega) i).trans (ho.2.2 i hi)⟩, (j2 4 (by omega)).trans t0, fun _ => rfl⟩
    · show (zy_u s).2 - 1 ≤ 6
      omega
    · have hk' : k < (zy_u s).2 - 1 := hk
      obtain ⟨b1, b2⟩ := hK.2.2 (k + 1) (by omega)
      refine ⟨?_, b2⟩
      show zt_H M2 ((zy_u s).2 - 1 - k) ((zy_u s).1 (k + 1))
      rw [show (zy_u s).2 - 1 - k = (zy_u s).2 - (k + 1) by omega]
      exact b1.slot b2 (fun x hx => j53 _ (by omega))
/-- void calls of the reference -/
def zy_Ov (X : Option mm_T) (M : mm_T) (k : Nat) (s : zy_T) : Prop := ∃ M', X = some M' ∧ zf_X M M' zy_Ar 100 2000 ∧ zy_M M' s ∧ mm_I M' 52 4 = nI k
theorem zy_thrV (h : zy_M M s) (k : Nat) : zy_Ov (some (mm_sI M 52 4 (nI k))) M k s := ⟨_, rfl, zu_wk (zu_F (zf_mono (zy_f4 M _) (fun a z => by unfold zy_Ar; omega))) (by omega) (by omega) (fun a z => z), h.thr _, by rw [zm_II, if_pos ⟨rfl, rfl⟩]⟩
theorem zy_OvI {X : Option mm_T} {M1 : mm_T} {A : Nat → Prop} {k : Nat} (g : zf_F M M1 A) (hA : ∀ a, A a → zy_Ar a) (h : zy_Ov X M1 k s) : zy_Ov X M k s := by
  obtain ⟨M', e, x, q⟩ := h
  exact ⟨M', e, zu_wk (zu_tr (zu_F (zf_mono g hA)) x) (by omega) (by omega) (fun a z => z), q⟩
theorem zy_saveM (h : zy_M M s) (a : Int32) : zy_Ov (ff_M_saveSnapshot 52 a M) M (if zi_A 2 a then 0 else 1) (if zi_A 2 a then zy_savd s (zi_n a) else s) := by
  have h0 := h.thr 0
  have t0 : mm_I (mm_sI M 52 4 0) 52 4 = nI 0 := by rw [zm_II, if_pos ⟨rfl, rfl⟩]; rfl
  unfold ff_M_saveSnapshot
  rw [zq_gd (zt_e52 h.2.1), zp_I (zt_e52 h.2.1), Option.bind_some, zq_jp]
  refine zy_OvI (zy_f4 M 0) (fun a z => by unfold zy_Ar; omega) ?_
  generalize mm_sI M 52 4 0 = M0 at h0 t0 ⊢
  have bad : zy_Ov ((pf_I M0 52 11 4 (1 : Int32)).bind fun M2 => some M2) M0 1 s := by
    rw [zp_I (zt_e52 h0.2.1), Option.bind_some]
    exact zy_thrV h0 1
  by_cases c0 : a < 0
  · rw [if_pos c0, if_neg (fun q => by have := zi_neg.mp c0; have := q.1; omega), if_neg (fun q => by have := zi_neg.mp c0; have := q.1; omega)]
    exact bad
  have c00 : 0 ≤ a.toInt := by rw [zi_neg] at c0; omega
  rw [if_neg c0]
  by_cases c1 : a < nI 2
  · have cA : zi_A 2 a := ⟨c00, (zi_ltn (by omega) c0).mp c1⟩
    rw [if_pos (show a < (2 : Int32) from c1), if_pos cA, if_pos cA]
    obtain ⟨hj, ea⟩ := zi_An cA
    generalize zi_n a = j at hj ea
    subst ea
    obtain ⟨h63, hS, hK, hN, hx, he, ho⟩ := h0
    obtain ⟨M3, e3, f3, o3, c3⟩ := zt_copies hS.1 (a := 0) (b := 7 + j) (by omega) (by omega) (by omega)
    have hR3 := hS.1.keep f3
    have e52' : (mm_k M3 52).1 = 11 := by rw [hR3.1]
    have e3' : ff_M_copies 52 (0 : Int32) ((7 : Int32) + nI j) M0 = some M3 := by
      rw [show (7 : Int32) = nI 7 from rfl, nI_add]
      exact e3
    rw [e3', Option.bind_some, zg_R e52', Option.bind_some, hR3.2.1.2.1, show (1 : Int32) = zb_B true from rfl, zw_Z hR3.2.2.2.1 hj (by omega), Option.bind_some]
    have f4 : zf_F M3 (mm_sI M3 54 j (zb_B true)) (fun a => a = 54) := zf_I1 _ _ _ _
    have i54 : ∀ k, mm_I (mm_sI M3 54 j (zb_B true)) 54 k = if k = j then zb_B true else mm_I M0 54 k := fun k => by
      rw [zm_II]
      by_cases q : k = j
      · rw [if_pos ⟨rfl, q⟩, if_pos q]
      · rw [if_neg (fun z => q z.2), if_neg q, zf_i f3 (by omega)]
    have i53 : ∀ k, mm_I (mm_sI M3 54 j (zb_B true)) 53 k = mm_I M3 53 k := fun k => zf_i f4 (by omega) k
    generalize mm_sI M3 54 j (zb_B true) = M4 at f4 i54 i53 ⊢
    have i : ∀ a, a ≠ 53 → a ≠ 54 → ∀ k, mm_I M4 a k = mm_I M0 a k := fun a z1 z2 k => by rw [zf_i f4 (by omega), zf_i f3 (by omega)]
    have far : ∀ o Q, o ≠ 7 + j → zt_H M0 o Q → zp_V Q → zt_H M4 o Q := fun o Q ho hH hV => hH.slot hV (fun k hk => by rw [i53, o3 _ (by omega)])
    have mine : zt_H M4 (7 + j) (zy_P s) := zt_H.slot hS.2.2.2.1 hS.2.2.2.2 (fun k hk => by rw [i53, c3 k hk])
    refine ⟨M4, rfl, zu_wk (zu_tr (zu_F (zf_mono f3 (fun a z => by unfold zy_Ar; omega))) (zu_F (zf_mono f4 (fun a z => by unfold zy_Ar; omega)))) (by omega) (by omega) (fun a z => z), ⟨by rw [f4.1, f3.1]; exact h63, ⟨hR3.keep f4, (i 52 (by omega) (by omega) 2).trans hS.2.1, hS.2.2.1, far 0 _ (by omega) hS.2.2.2.1 hS.2.2.2.2, hS.2.2.2.2⟩, ⟨hK.1, (i 52 (by omega) (by omega) 3).trans hK.2.1, fun k hk => ⟨far _ _ (fun z => by have z' : (zy_u s).2 - k = 7 + j := z; have := hK.1; omega) (hK.2.2 k hk).1 (hK.2.2 k hk).2, (hK.2.2 k hk).2⟩⟩, ?_, ⟨(i 52 (by omega) (by omega) 15).trans hx.1, hx.2.1, fun y hy => ⟨(i 60 (by omega) (by omega) y).trans (hx.2.2 y hy).1, (hx.2.2 y hy).2⟩⟩, ⟨(i 52 (by omega) (by omega) 16).trans he.1, (i 52 (by omega) (by omega) 17).trans he.2⟩, (i 52 (by omega) (by omega) 24).trans ho.1, ho.2.1, fun y hy => (i 62 (by omega) (by omega) y).trans (ho.2.2 y hy)⟩, (i 52 (by omega) (by omega) 4).trans t0⟩
    rcases (show j = 0 ∨ j = 1 by omega) with z | z
    · subst z
      refine ⟨by rw [i54, if_pos rfl]; rfl, ?_, fun Q e => ?_, fun Q e => ?_⟩
      · rw [i54, if_neg (by omega)]; exact hN.2.1
      · cases e; exact ⟨mine, hS.2.2.2.2⟩
      · exact ⟨far 8 Q (by omega) (hN.2.2.2 Q e).1 (hN.2.2.2 Q e).2, (hN.2.2.2 Q e).2⟩
    · subst z
      refine ⟨?_, by rw [i54, if_pos rfl]; rfl, fun Q e => ?_, fun Q e => ?_⟩
      · rw [i54, if_neg (by omega)]; exact hN.1
      · exact ⟨far 7 Q (by omega) (hN.2.2.1 Q e).1 (hN.2.2.1 Q e).2, (hN.2.2.1 Q e).2⟩
      · cases e; exact ⟨mine, hS.2.2.2.2⟩
  · rw [if_neg (show ¬ a < (2 : Int32) from c1), if_neg (fun q => c1 ((zi_ltn (by omega) c0).mpr q.2)), if_neg (fun q => c1 ((zi_ltn (by omega) c0).mpr q.2))]
    exact bad
theorem zt_Nslot (hN : zt_N M (zy_n s)) {j : Nat} (hj : j < 2) : mm_I M 54 j = zb_B (zy_slot s j).isSome ∧ ∀ Q, zy_slot s j = some Q → zt_H M (7 + j) Q ∧ zp_V Q := by
  unfold zy_slot
  rcases (show j = 0 ∨ j = 1 by omega) with z | z
  · subst z; rw [if_pos rfl]; exact ⟨hN.1, hN.2.2.1⟩
  · subst z; rw [if_neg (by omega)]; exact ⟨hN.2.1, hN.2.2.2⟩
theorem zy_restoreM (h : zy_M M s) (a : Int32) : zy_Ov (ff_M_restoreSnapshot 52 a M) M (if zi_A 2 a then (if zy_slot s (zi_n a) = none then 2 else 0) else 1) (if zi_A 2 a then zy_rst s (zi_n a) else s) := by
  have h0 := h.thr 0
  have t0 : mm_I (mm_sI M 52 4 0) 52 4 = nI 0 := by rw [zm_II, if_pos ⟨rfl, rfl⟩]; rfl
  unfold ff_M_restoreSnapshot
  rw [zq_gd (zt_e52 h.2.1), zp_I (zt_e52 h.2.1), Option.bind_some, zq_jp]
  refine zy_OvI (zy_f4 M 0) (fun a z => by unfold zy_Ar; omega) ?_
  generalize mm_sI M 52 4 0 = M0 at h0 t0 ⊢
  have bad : zy_Ov ((pf_I M0 52 11 4 (1 : Int32)).bind fun M2 => some M2) M0 1 s := by
    rw [zp_I (zt_e52 h0.2.1), Option.bind_some]
    exact zy_thrV h0 1
  by_cases c0 : a < 0
  · rw [if_pos c0, if_neg (fun q => by have := zi_neg.mp c0; have := q.1; omega), if_neg (fun q => by have := zi_neg.mp c0; have := q.1; omega)]
    exact bad
  have c00 : 0 ≤ a.toInt := by rw [zi_neg] at c0; omega
  rw [if_neg c0]
  by_cases c1 : a < nI 2
  · have cA : zi_A 2 a := ⟨c00, (zi_ltn (by omega) c0).mp c1⟩
    rw [if_pos (show a < (2 : Int32) from c1), if_pos cA, if_pos cA]
    obtain ⟨hj, ea⟩ := zi_An cA
    generalize zi_n a = j at hj ea
    subst ea
    obtain ⟨w1, w2⟩ := zt_Nslot h0.2.2.2.1 hj
    rw [zg_R (zt_e52 h0.2.1), Option.bind_some, h0.2.1.1.2.1.2.1, za_Z h0.2.1.1.2.2.2.1 hj (by omega), Option.bind_some, w1]
    unfold zy_rst
    cases eo : zy_slot s j with
    | none =>
      rw [if_pos (by rw [show (none : Option zp_T).isSome = false from rfl]; rfl), if_pos rfl, zp_I (zt_e52 h0.2.1), Option.bind_some]
      exact zy_thrV h0 2
    | some Q =>
      obtain ⟨b1, b2⟩ := w2 Q eo
      rw [if_neg (by rw [show (some Q).isSome = true from rfl]; decide), if_neg (by simp)]
      obtain ⟨h63, hS, hK, hN, hx, he, ho⟩ := h0
      obtain ⟨M3, e3, g3, S3⟩ := zy_copy0 (a := 7 + j) hS.1 hS.2.1 (by omega) (by omega) b1 b2
      have e3' : ff_M_copies 52 ((7 : Int32) + nI j) 0 M0 = some M3 := by
        rw [show (7 : Int32) = nI 7 from rfl, nI_add]
        exact e3
      have e52' : (mm_k M3 52).1 = 11 := by rw [S3.1.1]
      rw [e3', Option.bind_some, zp_I e52', Option.bind_some]
      have f4 : zf_F M3 (mm_sI M3 52 3 0) (fun a => a = 52) := zf_I1 _ _ _ _
      have i2 : ∀ k, k ≠ 3 → mm_I (mm_sI M3 52 3 0) 52 k = mm_I M0 52 k := fun k hk => by rw [zm_II, if_neg (fun z => hk z.2), zf_i g3.1 (by omega)]
      have i3 : mm_I (mm_sI M3 52 3 0) 52 3 = 0 := by rw [zm_II, if_pos ⟨rfl, rfl⟩]
      generalize mm_sI M3 52 3 0 = M4 at f4 i2 i3 ⊢
      have i : ∀ a, a ≠ 52 → a ≠ 53 → ∀ k, mm_I M4 a k = mm_I M0 a k := fun a z1 z2 k => by rw [zf_i f4 (by omega), zf_i g3.1 (by omega)]
      have i53 : ∀ k, 262 ≤ k → mm_I M4 53 k = mm_I M0 53 k := fun k hk => by rw [zf_i f4 (by omega), g3.2 k (by omega)]
      exact ⟨M4, rfl, zu_wk (zu_tr (zy_edX g3) (zu_F (zf_mono f4 (fun a z => by unfold zy_Ar; omega)))) (by omega) (by omega) (fun a z => z), ⟨by rw [f4.1, g3.1.1]; exact h63, ⟨S3.1.keep f4, (i2 2 (by omega)).trans hS.2.1, S3.2.2.1, S3.2.2.2.1.keep (fun k => zf_i f4 (by omega) k), S3.2.2.2.2⟩, ⟨by show 0 ≤ 6; omega, i3, fun k hk => absurd hk (Nat.not_lt_zero _)⟩, ⟨(i 54 (by omega) (by omega) 0).trans hN.1, (i 54 (by omega) (by omega) 1).trans hN.2.1, fun Q e => ⟨zt_H.slot (hN.2.2.1 Q e).1 (hN.2.2.1 Q e).2 (fun k hk => i53 _ (by omega)), (hN.2.2.1 Q e).2⟩, fun Q e => ⟨zt_H.slot (hN.2.2.2 Q e).1 (hN.2.2.2 Q e).2 (fun k hk => i53 _ (by omega)), (hN.2.2.2 Q e).2⟩⟩, ⟨(i2 15 (by omega)).trans hx.1, hx.2.1, fun y hy => ⟨(i 60 (by omega) (by omega) y).trans (hx.2.2 y hy).1, (hx.2.2 y hy).2⟩⟩, ⟨(i2 16 (by omega)).trans he.1, (i2 17 (by omega)).trans he.2⟩, (i2 24 (by omega)).trans ho.1, ho.2.1, fun y hy => (i 62 (by omega) (by omega) y).trans (ho.2.2 y hy)⟩, (i2 4 (by omega)).trans t0⟩
  · rw [if_neg (show ¬ a < (2 : Int32) from c1), if_neg (fun q => c1 ((zi_ltn (by omega) c0).mpr q.2)), if_neg (fun q => c1 ((zi_ltn (by omega) c0).mpr q.2))]
    exact bad
end ZYB5
