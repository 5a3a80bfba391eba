/-! ===== the reference loads a program ===== -/
theorem zT_chk_V {Q : zp_T} {F : Nat → Nat × Nat} (h : zQ_V Q (zp_nb Q)) (h1 : 1 ≤ zp_nb Q) (hc : zT_chk Q F (zp_nb Q) 0 = none) : zp_V Q := by
  obtain ⟨v1, v2, v3, v4, v5, v6, v7, v8⟩ := h
  have ok : ∀ (k b : Nat), zp_nb Q - b = k → zT_chk Q F k b = none → ∀ c, b ≤ c → c < zp_nb Q → (1 ≤ zp_w Q c → zp_f Q c < zp_nb Q) ∧ (zp_w Q c = 2 → zp_s Q c < zp_nb Q) := by
    intro k
    induction k with
    | zero => intro b hk _ c h1 h2; omega
    | succ k ih =>
      intro b hk hc c h1 h2
      have hc' : (if 1 ≤ zp_w Q b ∧ zp_nb Q ≤ zp_f Q b then some (4, (F b).1) else if zp_w Q b = 2 ∧ zp_nb Q ≤ zp_s Q b then some (4, (F b).2) else zT_chk Q F k (b + 1)) = none := hc
      by_cases c1 : 1 ≤ zp_w Q b ∧ zp_nb Q ≤ zp_f Q b
      · rw [if_pos c1] at hc'; cases hc'
      · rw [if_neg c1] at hc'
        by_cases c2 : zp_w Q b = 2 ∧ zp_nb Q ≤ zp_s Q b
        · rw [if_pos c2] at hc'; cases hc'
        · rw [if_neg c2] at hc'
          by_cases cb : c = b
          · subst cb; exact ⟨fun z => by omega, fun z => by omega⟩
          · exact ih (b + 1) (by omega) hc' c (by omega) h2
  refine ⟨h1, v1, v2, v3, v4, v5, fun b hb => ?_, v8⟩
  have o := ok (zp_nb Q) 0 rfl hc b (Nat.zero_le _) hb
  have v := v7 b hb
  exact ⟨v.1, o.1, fun z => ⟨(v.2.2 z).1, o.2 z⟩⟩
theorem zQ_V0 : zQ_V zQ_0 0 := ⟨by decide, by decide, rfl, fun b hb => absurd hb (Nat.not_lt_zero _), rfl, by decide, fun b hb => absurd hb (Nat.not_lt_zero _), fun b hb => absurd hb (Nat.not_lt_zero _)⟩
section ZLR
variable {M M0 : mm_T} {s : zy_T}
/-- what is left once the text is read -/
def zR_j : mm_T → Option (Int32 × mm_T) := fun (M11 : mm_T) => (pf_I M11 52 11 2 (0 : Int32)).bind fun M12 => (pf_I M12 52 11 15 (0 : Int32)).bind fun M13 => (gf_I M13 52 11 16).bind fun x6 => if x6 = 0 then ((ff_M_copies 52 (9 : Int32) (0 : Int32) M13).bind fun M14 => (pf_I M14 52 11 3 (0 : Int32)).bind fun M15 => (ff_M_get 52 (0 : Int32) M15).bind fun x7 => some (x7, M15)) else (some ((-1 : Int32), M13))
def zR_9 (M : mm_T) (r : Int32) (s' : zy_T) (y : Int32 × mm_T) : Prop := zf_X M y.2 zy_Ar 100 2000 ∧ zy_M y.2 s' ∧ mm_I y.2 52 4 = nI 0 ∧ y.1 = r
theorem zR_13z (h : zy_M M s) (g : zR_G (mm_sI M 52 2 9) M0) {tx : (Nat → Nat) × Nat} {r : Nat ⊕ zT_R} (hz : zR M0 tx r) {c : Nat × Int32} (hc : mm_I M0 52 16 = nI c.1 ∧ mm_I M0 52 17 = c.2) (t : mm_I M 52 4 = nI 0) : zf_F M (mm_sI (mm_sI M0 52 2 0) 52 15 0) zy_Aq ∧ zy_M (mm_sI (mm_sI M0 52 2 0) 52 15 0) (zy_prs s ((zy_t s).1, 0) c) ∧ mm_I (mm_sI (mm_sI M0 52 2 0) 52 15 0) 52 4 = nI 0 := by
  have f0 : zf_F M (mm_sI M 52 2 9) zy_Aq := zf_I (by unfold zy_Aq; omega) _ _
  have f1 : zf_F M (mm_sI (mm_sI M0 52 2 0) 52 15 0) zy_Aq := zf_tr (zf_tr (zf_tr f0 (zf_mono g.1 (fun a z => by unfold zy_Aq; omega))) (zf_I (by unfold zy_Aq; omega) _ _)) (zf_I (by unfold zy_Aq; omega) _ _)
  have k52 : ∀ k, k ≠ 2 → k < 15 ∨ 21 < k → mm_I (mm_sI (mm_sI M0 52 2 0) 52 15 0) 52 k = mm_I M 52 k := fun k q1 q2 => by
    rw [zm_II, if_neg (by omega), zm_II, if_neg (by omega), g.2.1 k (by omega), zm_II, if_neg (by omega)]
  refine ⟨f1, h.parser f1 (fun k hk => ?_) (fun k hk => ?_) ⟨?_, Nat.zero_le _, fun i hi => absurd hi (Nat.not_lt_zero _)⟩ ⟨?_, ?_⟩, ?_⟩
  · rcases hk with z | z
    · subst z
      rw [zm_II, if_neg (by omega), zm_II, if_pos ⟨rfl, rfl⟩, h.2.1.2.1]; rfl
    · exact k52 k (by omega) (by omega)
  · rw [zm_II, if_neg (by omega), zm_II, if_neg (by omega), g.2.2 k hk, zm_II, if_neg (by omega)]
  · rw [zm_II, if_pos ⟨rfl, rfl⟩]; rfl
  · rw [zm_II, if_neg (by omega), zm_II, if_neg (by omega)]; exact hc.1
  · rw [zm_II, if_neg (by omega), zm_II, if_neg (by omega)]; exact hc.2
  · rw [k52 4 (by omega) (by omega)]; exact t
theorem zR_jE (h : zy_M M s) (t : mm_I M 52 4 = nI 0) {a : zT_R} {tx : (Nat → Nat) × Nat} (hE : zR_E (mm_sI M 52 2 9) M0 tx a) : zh_H (zR_j M0) (zR_9 M (-1) (zy_prs s ((zy_t s).1, 0) (a.1, nI a.2))) := by
  have e52 := zR_e hE.2.1
  have e1 : (mm_k (mm_sI M0 52 2 0) 52).1 = 11 := e52
  have e2 : (mm_k (mm_sI (mm_sI M0 52 2 0) 52 15 0) 52).1 = 11 := e52
  obtain ⟨f, C, t'⟩ := zR_13z h hE.1 hE.2.1 (c := (a.1, nI a.2)) ⟨hE.2.1.2.2.2.1, hE.2.1.2.2.2.2.1⟩ t
  have ne : mm_I (mm_sI (mm_sI M0 52 2 0) 52 15 0) 52 16 ≠ 0 := by
    rw [zm_II, if_neg (by omega), zm_II, if_neg (by omega)]
    exact zR_ne hE.2.1
  unfold zR_j
  rw [zp_I e52, Option.bind_some, zp_I e1, Option.bind_some, zg_I e2, Option.bind_some, if_neg ne]
  exact zh_some ⟨zy_AqX f, C, t', rfl⟩
theorem zR_jS (h : zy_M M s) (t : mm_I M 52 4 = nI 0) {tx : (Nat → Nat) × Nat} {Q : zp_T} {F : Nat → Nat × Nat} {e : Nat} (hS : zR_S (mm_sI M 52 2 9) M0 tx Q F (zp_nb Q) e) (hV : zp_V Q) : zh_H (zR_j M0) (zR_9 M (nI (zp_nb Q)) (zy_put (zy_prs s ((zy_t s).1, 0) (0, -1)) Q)) := by
  have e52 := zR_e hS.2.1
  have e1 : (mm_k (mm_sI M0 52 2 0) 52).1 = 11 := e52
  have e2 : (mm_k (mm_sI (mm_sI M0 52 2 0) 52 15 0) 52).1 = 11 := e52
  obtain ⟨f, C, t'⟩ := zR_13z h hS.1 hS.2.1 (c := (0, -1)) ⟨hS.2.1.2.2.2.1, hS.2.1.2.2.2.2⟩ t
  have z16 : mm_I (mm_sI (mm_sI M0 52 2 0) 52 15 0) 52 16 = 0 := by
    rw [zm_II, if_neg (by omega), zm_II, if_neg (by omega)]
    exact hS.2.1.2.2.2.1
  have H9 : zt_H (mm_sI (mm_sI M0 52 2 0) 52 15 0) 9 Q := (hS.2.2.2.1.keep (M' := mm_sI (mm_sI M0 52 2 0) 52 15 0) (fun k => by rw [zm_II, if_neg (by omega), zm_II, if_neg (by omega)])).fin
  unfold zR_j
  rw [zp_I e52, Option.bind_some, zp_I e1, Option.bind_some, zg_I e2, Option.bind_some, if_pos z16]
  generalize mm_sI (mm_sI M0 52 2 0) 52 15 0 = M13 at f C t' H9 e2 ⊢
  obtain ⟨h63, hS', hK, hN, hx, he, ho⟩ := C
  obtain ⟨M3, e3, g3, S3⟩ := zy_copy0 (a := 9) hS'.1 hS'.2.1 (by omega) (by omega) H9 hV
  have e3' : ff_M_copies 52 (9 : Int32) 0 M13 = some M3 := e3
  have e52' : (mm_k M3 52).1 = 11 := by rw [S3.1.1]
  have f4 : zf_F M3 (mm_sI M3 52 3 0) (fun a => a = 52) := zf_I1 _ _ _ _
  have i2 : ∀ k, k ≠ 3 → mm_I (mm_sI M3 52 3 0) 52 k = mm_I M13 52 k := fun k hk => by rw [zm_II, if_neg (fun z => hk z.2), zf_i g3.1 (by omega)]
  have i3 : mm_I (mm_sI M3 52 3 0) 52 3 = 0 := by rw [zm_II, if_pos ⟨rfl, rfl⟩]
  rw [e3', Option.bind_some, zp_I e52', Option.bind_some]
  generalize mm_sI M3 52 3 0 = M4 at f4 i2 i3 ⊢
  have i : ∀ a, a ≠ 52 → a ≠ 53 → ∀ k, mm_I M4 a k = mm_I M13 a k := fun a z1 z2 k => by rw [zf_i f4 (by omega), zf_i g3.1 (by omega)]
  have i53 : ∀ k, 262 ≤ k → mm_I M4 53 k = mm_I M13 53 k := fun k hk => by rw [zf_i f4 (by omega), g3.2 k (by omega)]
  have S4 : zt_S M4 0 Q := ⟨S3.1.keep f4, (i2 2 (by omega)).trans hS'.2.1, S3.2.2.1, S3.2.2.2.1.keep (fun k => zf_i f4 (by omega) k), S3.2.2.2.2⟩
  have gt : ff_M_get 52 0 M4 = some (nI (zp_nb Q)) := by
    have := zt_get S4.1 S4.2.1 S4.2.2.1 (w := 0) (by omega)
    rw [S4.2.2.2.1.1] at this
    exact this
  rw [gt, Option.bind_some]
  have C4 : zy_M M4 (zy_put (zy_prs s ((zy_t s).1, 0) (0, -1)) Q) := ⟨by rw [f4.1, g3.1.1]; exact h63, S4, ⟨by show 0 ≤ 6; omega, i3, fun k hk => absurd hk (Nat.not_lt_zero _)⟩, ⟨(i 54 (by omega) (by omega) 0).trans hN.1, (i 54 (by omega) (by omega) 1).trans hN.2.1, fun Q e => ⟨zt_H.slot (hN.2.2.1 Q e).1 (hN.2.2.1 Q e).2 (fun k hk => i53 _ (by omega)), (hN.2.2.1 Q e).2⟩, fun Q e => ⟨zt_H.slot (hN.2.2.2 Q e).1 (hN.2.2.2 Q e).2 (fun k hk => i53 _ (by omega)), (hN.2.2.2 Q e).2⟩⟩, ⟨(i2 15 (by omega)).trans hx.1, hx.2.1, fun j hj => ⟨(i 60 (by omega) (by omega) j).trans (hx.2.2 j hj).1, (hx.2.2 j hj).2⟩⟩, ⟨(i2 16 (by omega)).trans he.1, (i2 17 (by omega)).trans he.2⟩, (i2 24 (by omega)).trans ho.1, ho.2.1, fun j hj => (i 62 (by omega) (by omega) j).trans (ho.2.2 j hj)⟩
  exact zh_some ⟨zu_wk (zu_tr (zy_AqX f) (zu_tr (zy_edX g3) (zu_F (zf_mono f4 (fun a z => by unfold zy_Ar; omega))))) (by omega) (by omega) (fun a z => z), C4, (i2 4 (by omega)).trans t', rfl⟩
end ZLR
