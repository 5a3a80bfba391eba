/-! ===== the reference takes tokens ===== -/
def zR (M : mm_T) (tx : (Nat → Nat) × Nat) (r : Nat ⊕ zT_R) : Prop := zt_R M ∧ zt_tx M tx ∧ match r with
  | .inl e => zT_M M tx e ∧ mm_I M 52 16 = 0 ∧ mm_I M 52 17 = -1
  | .inr a => (∃ e, zT_M M tx e) ∧ mm_I M 52 16 = nI a.1 ∧ mm_I M 52 17 = nI a.2 ∧ 0 < a.1 ∧ a.1 < 5
def zR_F (M M' : mm_T) : Prop := zf_F M M' (fun a => a = 52) ∧ ∀ k, k < 16 ∨ 21 < k → mm_I M' 52 k = mm_I M 52 k
theorem zR_F_rfl (M : mm_T) : zR_F M M := ⟨zf_rfl _ _, fun _ _ => rfl⟩
theorem zR_F_tr {M M1 M2 : mm_T} (h : zR_F M M1) (h2 : zR_F M1 M2) : zR_F M M2 := ⟨zf_tr h.1 h2.1, fun k hk => (h2.2 k hk).trans (h.2 k hk)⟩
theorem zR_F_1 (M : mm_T) {k : Nat} (v : Int32) (h1 : 16 ≤ k) (h2 : k ≤ 21) : zR_F M (mm_sI M 52 k v) := ⟨zf_I1 _ _ _ _, fun j hj => by rw [zm_II, if_neg (by omega)]⟩
theorem zT_FM.r {M M' : mm_T} (h : zT_FM M M') : zR_F M M' := ⟨h.1, fun k hk => h.2 k (by omega)⟩
def zR_V (X : Option (Int32 × mm_T)) (M : mm_T) (tx : (Nat → Nat) × Nat) (q : (Nat × Nat) ⊕ zT_R) : Prop := ∃ v M', X = some (v, M') ∧ zR_F M M' ∧ match q with
  | .inl a => v = nI a.1 ∧ zR M' tx (.inl a.2)
  | .inr a => zR M' tx (.inr a)
def zR_U (X : Option mm_T) (M : mm_T) (tx : (Nat → Nat) × Nat) (r : Nat ⊕ zT_R) : Prop := ∃ M', X = some M' ∧ zR_F M M' ∧ zR M' tx r
section ZRT
variable {M : mm_T} {tx : (Nat → Nat) × Nat} {r : Nat ⊕ zT_R}
theorem zR_e (h : zR M tx r) : (mm_k M 52).1 = 11 := zT_e52 h.1
theorem zR_tok (h : zR M tx r) : ∃ e, zT_M M tx e := by
  obtain ⟨_, _, h⟩ := h
  cases r with
  | inl e => exact ⟨e, h.1⟩
  | inr a => exact h.1
theorem zR_ne {a : zT_R} (h : zR M tx (.inr a)) : mm_I M 52 16 ≠ 0 := by
  have z : mm_I M 52 16 = nI a.1 := h.2.2.2.1
  have z5 : 0 < a.1 ∧ a.1 < 5 := h.2.2.2.2.2
  rw [z]; exact nI_ne0 z5.1 (by omega)
theorem zR_16 (h : zR M tx r) : mm_I M 52 16 = 0 ↔ ∃ e, r = .inl e := by
  cases r with
  | inl e => exact ⟨fun _ => ⟨e, rfl⟩, fun _ => h.2.2.2.1⟩
  | inr a => exact ⟨fun z => absurd z (zR_ne h), fun ⟨e, z⟩ => by cases z⟩
theorem zR_err {e c : Nat} (h : zR M tx (.inl e)) (h0 : 0 < c) (h5 : c < 5) : zR_F M (mm_sI (mm_sI M 52 16 (nI c)) 52 17 (nI (zT_s' tx e))) ∧ zR (mm_sI (mm_sI M 52 16 (nI c)) 52 17 (nI (zT_s' tx e))) tx (.inr (c, zT_s' tx e)) := by
  obtain ⟨hR, hx, ⟨t0, t1, t2, t3, t4⟩, _⟩ := h
  have f := zR_F_tr (zR_F_1 M (k := 16) (nI c) (by omega) (by omega)) (zR_F_1 (mm_sI M 52 16 (nI c)) (k := 17) (nI (zT_s' tx e)) (by omega) (by omega))
  have kp : ∀ k, 17 < k → mm_I (mm_sI (mm_sI M 52 16 (nI c)) 52 17 (nI (zT_s' tx e))) 52 k = mm_I M 52 k := fun k hk => by rw [zm_II, if_neg (by omega), zm_II, if_neg (by omega)]
  refine ⟨f, hR.keep f.1, ⟨(f.2 15 (by omega)).trans hx.1, hx.2.1, fun i hi => ⟨(zf_i f.1 (by omega) i).trans (hx.2.2 i hi).1, (hx.2.2 i hi).2⟩⟩, ⟨e, t0, (kp _ (by omega)).trans t1, (kp _ (by omega)).trans t2, (kp _ (by omega)).trans t3, fun z => (kp _ (by omega)).trans (t4 z)⟩, ?_, ?_, h0, h5⟩
  · rw [zm_II, if_neg (by omega), zm_II, if_pos ⟨rfl, rfl⟩]
  · rw [zm_II, if_pos ⟨rfl, rfl⟩]
theorem zR_mustT {e : Nat} (h : zR M tx (.inl e)) (c : Int32) : ff_M_must 52 1 c M = some (1, M) := by
  have e52 := zR_e h
  have z : mm_I M 52 16 = 0 := h.2.2.2.1
  unfold ff_M_must
  rw [zq_gd e52, zg_I e52, Option.bind_some, z]
  simp only [zq_jp]
  rw [if_pos trivial, if_neg (show ¬ (1 : Int32) = 0 by decide), zg_I e52, Option.bind_some, z, if_pos rfl]
theorem zR_mustF {e c : Nat} (h : zR M tx (.inl e)) (h0 : 0 < c) (h5 : c < 5) : ∃ M', ff_M_must 52 0 (nI c) M = some (0, M') ∧ zR_F M M' ∧ zR M' tx (.inr (c, zT_s' tx e)) := by
  have e52 := zR_e h
  have z : mm_I M 52 16 = 0 := h.2.2.2.1
  have g := zR_err h h0 h5
  have e1 : (mm_k (mm_sI M 52 16 (nI c)) 52).1 = 11 := e52
  have e2 := zR_e g.2
  have i19 : mm_I (mm_sI M 52 16 (nI c)) 52 19 = nI (zT_s' tx e) := by rw [zm_II, if_neg (by omega)]; exact h.2.2.1.2.2.1
  refine ⟨_, ?_, g.1, g.2⟩
  unfold ff_M_must
  rw [zq_gd e52, zg_I e52, Option.bind_some, z]
  simp only [zq_jp]
  rw [if_pos trivial, if_pos trivial, zp_I e52, Option.bind_some, zg_I e1, Option.bind_some, i19, zp_I e1, Option.bind_some, zg_I e2, Option.bind_some, if_neg (zR_ne g.2)]
theorem zR_mustE {a : zT_R} (h : zR M tx (.inr a)) (v c : Int32) : ff_M_must 52 v c M = some (0, M) := by
  have e52 := zR_e h
  have z := zR_ne h
  unfold ff_M_must
  rw [zq_gd e52, zg_I e52, Option.bind_some]
  simp only [zq_jp]
  rw [if_neg z, zg_I e52, Option.bind_some, if_neg z]
theorem zR_goes {e : Nat} (h : zR M tx (.inl e)) : zR_U (ff_M_goesOn 52 M) M tx (.inl (zT_e tx e)) := by
  have e52 := zR_e h
  obtain ⟨hR, hx, t, z, z2⟩ := h
  obtain ⟨M1, e1, f1, t1⟩ := zT_nextM hR hx (zT_e_le t.1).2.1 t.2.2.2.1
  unfold ff_M_goesOn
  rw [zq_gd e52, zg_I e52, Option.bind_some, z, if_pos rfl, e1, Option.bind_some]
  exact ⟨M1, rfl, f1.r, hR.keep f1.1, zT_txk hx f1, t1, (f1.2 16 (by omega)).trans z, (f1.2 17 (by omega)).trans z2⟩
theorem zR_goesE {a : zT_R} (h : zR M tx (.inr a)) : ff_M_goesOn 52 M = some M := by
  have e52 := zR_e h
  unfold ff_M_goesOn
  rw [zq_gd e52, zg_I e52, Option.bind_some, if_neg (zR_ne h)]
theorem zR_endsE {a : zT_R} (h : zR M tx (.inr a)) : ff_M_endsLine 52 M = some M := by
  have e52 := zR_e h
  unfold ff_M_endsLine bd_2
  rw [zq_gd e52, zg_I e52, Option.bind_some]
  simp only [zq_jp, zR_mustE h, Option.bind_some, zR_goesE h, ite_self]
theorem zR_ends {e : Nat} (h : zR M tx (.inl e)) : zR_U (ff_M_endsLine 52 M) M tx (zT_sem tx e) := by
  have e52 := zR_e h
  have k4 := zT_k_le tx e
  unfold ff_M_endsLine bd_2 zT_sem
  rw [zq_gd e52, zg_I e52, Option.bind_some, h.2.2.1.2.1]
  simp only [zq_jp]
  by_cases c : zT_k tx e = 3
  · obtain ⟨M1, e1, g⟩ := zR_goes h
    rw [if_pos (by rw [c]; rfl), if_pos c, zR_mustT h, Option.bind_some, e1, Option.bind_some]
    exact ⟨M1, rfl, g⟩
  · obtain ⟨M1, e1, f1, g1⟩ := zR_mustF h (c := 1) (by omega) (by omega)
    have e1' : ff_M_must 52 0 1 M = some (0, M1) := e1
    rw [if_neg (show ¬ nI (zT_k tx e) = (3 : Int32) from fun z => c ((nI_eq (b := 3) (by omega) (by omega)).mp z)), if_neg c, e1', Option.bind_some, zR_goesE g1, Option.bind_some]
    exact ⟨M1, rfl, f1, g1⟩
theorem zR_wordE {a : zT_R} (h : zR M tx (.inr a)) (i : Nat) : ff_M_isWord 52 i M = some 0 := by
  have e52 := zR_e h
  unfold ff_M_isWord
  rw [zq_gd e52, zg_I e52, Option.bind_some, if_neg (zR_ne h)]
theorem zR_word {e : Nat} (h : zR M tx (.inl e)) {i : Nat} (hi : i < 31) : ff_M_isWord 52 (st_B + i) M = some (zb_B (decide (zT_W tx e i))) := by
  have e52 := zR_e h
  obtain ⟨hR, hx, hT, z, _⟩ := h
  have h7 := hx.2.1
  have el := zW_tl i hi
  have hel := zT_e_le hT.1
  have hsl := zT_s_le hT.1
  have hkl := zT_k_le tx e
  have len : ff_JS_length (st_B + i) M = some (nI (gs_len.getD i 0)) := by
    unfold ff_JS_length
    rw [if_pos ⟨by omega, by unfold gs_N; omega⟩, Nat.add_sub_cancel_left]
    rfl
  have l31 : ∀ i, i < 31 → gs_len.getD i 0 < 200 := by decide +kernel
  have hb := l31 i hi
  unfold ff_M_isWord
  rw [zq_gd e52, zg_I e52, Option.bind_some, z, if_pos rfl, zg_I e52, Option.bind_some, hT.2.1]
  by_cases c1 : zT_k tx e = 1
  · rw [if_pos (by rw [c1]; rfl), zg_I e52, Option.bind_some, hT.2.2.2.1, zg_I e52, Option.bind_some, hT.2.2.1, len, Option.bind_some, zi_sub hel.1]
    by_cases c2 : zT_e tx e - zT_s' tx e = (zW_t i).length
    · rw [if_pos (by rw [c2, el])]
      refine zh_is (zh_up (F := fun fu j (_ : Unit) => lf_M_isWord_35 52 (st_B + i) M fu j) (Q := fun y => y = zb_B (decide (zT_W tx e i))) (gs_len.getD i 0) (fun j _ => ∀ k, k < j → tx.1 (zT_s' tx e + k) = (zW_t i).getD k 0) ?_ ?_ fu_L 0 () (Nat.zero_le _) (by rw [zs_fuel]; omega) (fun k hk => absurd hk (Nat.not_lt_zero _)))
      · intro fu j _ hj g k
        obtain ⟨c3, c4⟩ := zW_tc i hi j hj
        have ch : ff_JS_charAt (st_B + i) (nI j) M = some (nI ((zW_t i).getD j 0)) := by
          have e := nI_toInt (n := j) (by omega)
          unfold ff_JS_charAt
          rw [e, Nat.add_sub_cancel_left, if_pos ⟨⟨by omega, by unfold gs_N; omega⟩, by omega, by omega⟩, Int.toNat_natCast, c3]
        have hin : zT_s' tx e + j < tx.2 := by omega
        have h256 := (hx.2.2 _ hin).2
        show zh_H (lb_M_isWord_35 52 (st_B + i) M (lf_M_isWord_35 52 (st_B + i) M fu) (nI j)) _
        unfold lb_M_isWord_35
        rw [len, Option.bind_some, if_neg (nI_ge hj (by omega)), zg_R e52, Option.bind_some, (zt_r60 hR).1, zg_I e52, Option.bind_some, hT.2.2.1, nI_add, zT_arM hR hx hin, Option.bind_some, ch, Option.bind_some]
        by_cases c5 : tx.1 (zT_s' tx e + j) = (zW_t i).getD j 0
        · rw [if_pos (by rw [c5]), Option.bind_some, nI_1]
          refine k () (fun x hx => ?_)
          rcases Nat.lt_or_ge x j with q | q
          · exact g x q
          · rw [show x = j by omega]; exact c5
        · rw [if_neg (fun z => c5 ((nI_eq (by omega) (by omega)).mp z)), decide_eq_false (fun z => c5 (z.2.2 j (by omega)))]
          exact zh_some rfl
      · intro fu _ g
        show zh_H (lb_M_isWord_35 52 (st_B + i) M (lf_M_isWord_35 52 (st_B + i) M fu) (nI (gs_len.getD i 0))) _
        unfold lb_M_isWord_35
        rw [len, Option.bind_some, if_pos (nI_le (Nat.le_refl _) (by omega)), decide_eq_true ⟨c1, c2, fun j hj => g j (by omega)⟩]
        exact zh_some rfl
    · rw [if_neg (fun z => c2 (by rw [el]; exact (nI_eq (by omega) (by omega)).mp z)), decide_eq_false (fun z => c2 z.2.1)]
      rfl
  · rw [if_neg (show ¬ nI (zT_k tx e) = (1 : Int32) from fun z => c1 ((nI_eq (b := 1) (by omega) (by omega)).mp z)), decide_eq_false (fun z => c1 z.1)]
    rfl
theorem zR_kindE {a : zT_R} (h : zR M tx (.inr a)) : ff_M_kindHere 52 M = some (-1) := by
  unfold ff_M_kindHere
  rw [zq_gd (zR_e h)]
  simp only [zR_wordE h, Option.bind_some, if_true]
theorem zR_kind {e : Nat} (h : zR M tx (.inl e)) : ff_M_kindHere 52 M = some (zo_N (zT_kh tx e)) := by
  unfold ff_M_kindHere zT_kh
  rw [zq_gd (zR_e h)]
  simp only [zR_word h (show 2 < 31 by omega), zR_word h (show 3 < 31 by omega), zR_word h (show 4 < 31 by omega), zR_word h (show 5 < 31 by omega), Option.bind_some, zb_0, decide_eq_false_iff_not]
  by_cases c2 : zT_W tx e 2
  · rw [if_neg (fun z => z c2), if_pos c2]; rfl
  · rw [if_pos c2, if_neg c2]
    by_cases c3 : zT_W tx e 3
    · rw [if_neg (fun z => z c3), if_pos c3]; rfl
    · rw [if_pos c3, if_neg c3]
      by_cases c4 : zT_W tx e 4
      · rw [if_neg (fun z => z c4), if_pos c4]; rfl
      · rw [if_pos c4, if_neg c4]
        by_cases c5 : zT_W tx e 5
        · rw [if_neg (fun z => z c5), if_pos c5]; rfl
        · rw [if_pos c5, if_neg c5]; rfl
/-- a number -/
theorem zR_numE {a : zT_R} (h : zR M tx (.inr a)) (m : Int32) : ff_M_reads 52 m M = some (0, M) := by
  have e52 := zR_e h
  unfold ff_M_reads bd_2
  rw [zq_gd e52, zg_I e52, Option.bind_some]
  simp only [zq_jp, zR_mustE h, Option.bind_some, zg_I e52, if_true, if_neg (zR_ne h), zR_goesE h, ite_self]
theorem zR_num {e m : Nat} (h : zR M tx (.inl e)) (hm : m < 1000) : zR_V (ff_M_reads 52 (nI m) M) M tx (zT_num tx m e) := by
  have e52 := zR_e h
  have k4 := zT_k_le tx e
  have hT := h.2.2.1
  have z : mm_I M 52 16 = 0 := h.2.2.2.1
  -- what follows an error
  have bad : ∀ {a : zT_R} {N : mm_T}, zR_F M N → zR N tx (.inr a) → zR_V ((gf_I N 52 11 16).bind fun x4 => if x4 = 0 then ((gf_I N 52 11 21).bind fun x6 => (ff_M_goesOn 52 N).bind fun M3 => some (x6, M3)) else ((ff_M_goesOn 52 N).bind fun M3 => some ((0 : Int32), M3))) M tx (.inr a) := by
    intro a N f hN
    rw [zg_I (zR_e hN), Option.bind_some, if_neg (zR_ne hN), zR_goesE hN, Option.bind_some]
    exact ⟨0, N, rfl, f, hN⟩
  unfold ff_M_reads bd_2 zT_num
  rw [zq_gd e52, zg_I e52, Option.bind_some, hT.2.1]
  simp only [zq_jp]
  by_cases c : zT_k tx e = 2
  · have rb := zT_rv_ok tx.1 (zT_s' tx e) (zT_e tx e - zT_s' tx e) (fun i hi => zT_dig ((zT_in (Or.inr c) (by omega) (by omega)).trans c))
    have ev : zT_v tx e = zT_val tx.1 (zT_s' tx e) (zT_e tx e - zT_s' tx e) := by unfold zT_v; rw [if_pos c]
    have h21 := hT.2.2.2.2 c
    rw [if_pos (by rw [c]; rfl), if_pos c, zR_mustT h, Option.bind_some]
    show zR_V (if (1 : Int32) = 0 then _ else _) M tx _
    rw [if_neg (show ¬ (1 : Int32) = 0 by decide), zg_I e52, Option.bind_some, h21]
    by_cases d : zT_v tx e ≤ m
    · obtain ⟨M1, e1, f1, g1⟩ := zR_goes h
      rw [if_neg (nI_nlt (by omega) (by omega)), if_pos d, zR_mustT h, Option.bind_some]
      show zR_V ((gf_I M 52 11 16).bind _) M tx _
      rw [zg_I e52, Option.bind_some, z, if_pos rfl]
      show zR_V ((gf_I M 52 11 21).bind fun x5 => (ff_M_goesOn 52 M).bind fun M3 => some (x5, M3)) M tx _
      rw [zg_I e52, Option.bind_some, h21, e1, Option.bind_some]
      exact ⟨_, M1, rfl, f1, by rw [show zT_rv tx.1 (zT_s' tx e) (zT_e tx e - zT_s' tx e) = zT_v tx e by omega], g1⟩
    · obtain ⟨M1, e1, f1, g1⟩ := zR_mustF h (c := 2) (by omega) (by omega)
      have e1' : ff_M_must 52 0 2 M = some (0, M1) := e1
      rw [if_pos (nI_lt (by omega) (by omega)), if_neg d, e1', Option.bind_some]
      exact bad f1 g1
  · obtain ⟨M1, e1, f1, g1⟩ := zR_mustF h (c := 1) (by omega) (by omega)
    have e1' : ff_M_must 52 0 1 M = some (0, M1) := e1
    rw [if_neg (show ¬ nI (zT_k tx e) = (2 : Int32) from fun z => c ((nI_eq (b := 2) (by omega) (by omega)).mp z)), if_neg c, e1', Option.bind_some]
    show zR_V (if (0 : Int32) = 0 then _ else _) M tx _
    rw [if_pos rfl]
    exact bad f1 g1
/-- a variable -/
theorem zR_varE {a : zT_R} (h : zR M tx (.inr a)) : ff_M_readsVariable 52 M = some (0, M) := by
  have e52 := zR_e h
  obtain ⟨e, hT⟩ := zR_tok h
  have hR := h.1
  have hx := h.2.1
  have h7 := hx.2.1
  have hel := zT_e_le hT.1
  have hkl := zT_k_le tx e
  unfold ff_M_readsVariable bd_2
  rw [zq_gd e52, zg_I e52, Option.bind_some, hT.2.1]
  simp only [zq_jp, zR_mustE h, Option.bind_some, zg_I e52, if_neg (zR_ne h), zR_goesE h]
  by_cases c : zT_k tx e = 1
  · have hlt := hel.2.2 (by omega)
    have hin : zT_s' tx e < tx.2 := by omega
    rw [zg_R e52, Option.bind_some, (zt_r60 hR).1, hT.2.2.1, zT_arM hR hx hin, Option.bind_some, show (97 : Int32) = nI 97 from rfl, show (104 : Int32) = nI 104 from rfl, zT_inM (hx.2.2 _ hin).2 (by omega) (by omega), Option.bind_some]
    simp only [ite_self]
  · rw [if_neg (show ¬ nI (zT_k tx e) = (1 : Int32) from fun z => c ((nI_eq (b := 1) (by omega) (by omega)).mp z))]
theorem zR_var {e : Nat} (h : zR M tx (.inl e)) : zR_V (ff_M_readsVariable 52 M) M tx (zT_var tx e) := by
  have e52 := zR_e h
  have hR := h.1
  have hx := h.2.1
  have hT := h.2.2.1
  have z : mm_I M 52 16 = 0 := h.2.2.2.1
  have h7 := hx.2.1
  have hel := zT_e_le hT.1
  have hkl := zT_k_le tx e
  obtain ⟨Mf, ef, ff, gf⟩ := zR_mustF h (c := 1) (by omega) (by omega)
  have ef' : ff_M_must 52 0 1 M = some (0, Mf) := ef
  have bad : zR_V ((ff_M_must 52 0 1 M).bind fun p => (gf_I p.2 52 11 16).bind fun x4 => if x4 = 0 then ((gf_R p.2 52 11 14).bind fun x6 => (gf_I p.2 52 11 19).bind fun x7 => (ar_I p.2 x6 x7).bind fun x8 => (ff_M_goesOn 52 p.2).bind fun M2 => some (x8 - (97 : Int32), M2)) else ((ff_M_goesOn 52 p.2).bind fun M2 => some ((0 : Int32), M2))) M tx (.inr (1, zT_s' tx e)) := by
    rw [ef', Option.bind_some]
    show zR_V ((gf_I Mf 52 11 16).bind fun x4 => if x4 = 0 then ((gf_R Mf 52 11 14).bind fun x6 => (gf_I Mf 52 11 19).bind fun x7 => (ar_I Mf x6 x7).bind fun x8 => (ff_M_goesOn 52 Mf).bind fun M2 => some (x8 - (97 : Int32), M2)) else ((ff_M_goesOn 52 Mf).bind fun M2 => some ((0 : Int32), M2))) M tx _
    rw [zg_I (zR_e gf), Option.bind_some, if_neg (zR_ne gf), zR_goesE gf, Option.bind_some]
    exact ⟨0, Mf, rfl, ff, gf⟩
  unfold ff_M_readsVariable bd_2 zT_var
  rw [zq_gd e52, zg_I e52, Option.bind_some, hT.2.1]
  simp only [zq_jp]
  by_cases c : zT_k tx e = 1
  · have hlt := hel.2.2 (by omega)
    have hin : zT_s' tx e < tx.2 := by omega
    have hlet := zT_let (b := tx.1 (zT_s' tx e)) ((zT_in (Or.inl c) (Nat.le_refl _) hlt).trans c)
    rw [if_pos (by rw [c]; rfl), zg_I e52, Option.bind_some, hT.2.2.2.1, zg_I e52, Option.bind_some, hT.2.2.1, zi_sub hel.1]
    by_cases d : zT_e tx e - zT_s' tx e = 1
    · rw [if_pos (by rw [d]; rfl), zg_R e52, Option.bind_some, (zt_r60 hR).1, Option.bind_some, zT_arM hR hx hin, Option.bind_some, show (97 : Int32) = nI 97 from rfl, show (104 : Int32) = nI 104 from rfl, zT_inM (hx.2.2 _ hin).2 (by omega) (by omega), Option.bind_some]
      by_cases d2 : tx.1 (zT_s' tx e) < 105
      · obtain ⟨M1, e1, f1, g1⟩ := zR_goes h
        rw [decide_eq_true (by omega), if_neg (by decide), if_pos ⟨c, d, d2⟩, zR_mustT h, Option.bind_some]
        show zR_V ((gf_I M 52 11 16).bind fun x4 => if x4 = 0 then ((gf_R M 52 11 14).bind fun x6 => (gf_I M 52 11 19).bind fun x7 => (ar_I M x6 x7).bind fun x8 => (ff_M_goesOn 52 M).bind fun M2 => some (x8 - nI 97, M2)) else ((ff_M_goesOn 52 M).bind fun M2 => some ((0 : Int32), M2))) M tx _
        rw [zg_I e52, Option.bind_some, z, if_pos rfl, zg_R e52, Option.bind_some, (zt_r60 hR).1, zg_I e52, Option.bind_some, hT.2.2.1, zT_arM hR hx hin, Option.bind_some, e1, Option.bind_some, zi_sub hlet.1]
        exact ⟨_, M1, rfl, f1, rfl, g1⟩
      · rw [decide_eq_false (by omega), if_pos (by decide), if_neg (fun q => d2 q.2.2)]
        exact bad
    · rw [if_neg (show ¬ nI (zT_e tx e - zT_s' tx e) = (1 : Int32) from fun z => d ((nI_eq (b := 1) (by omega) (by omega)).mp z)), if_neg (fun q => d q.2.1)]
      exact bad
  · rw [if_neg (show ¬ nI (zT_k tx e) = (1 : Int32) from fun z => c ((nI_eq (b := 1) (by omega) (by omega)).mp z)), if_neg (fun q => c q.1)]
    exact bad
/-- an operator -/
theorem zR_oprE {a : zT_R} (h : zR M tx (.inr a)) : ff_M_readsOperator 52 M = some (2, M) := by
  unfold ff_M_readsOperator bd_2
  rw [zq_gd (zR_e h)]
  simp only [zq_jp, zR_wordE h, zR_mustE h, Option.bind_some, if_true, zR_goesE h]
theorem zR_opr {e : Nat} (h : zR M tx (.inl e)) : zR_V (ff_M_readsOperator 52 M) M tx (zT_opr tx e) := by
  obtain ⟨Mf, ef, ff, gf⟩ := zR_mustF h (c := 1) (by omega) (by omega)
  have ef' : ff_M_must 52 0 1 M = some (0, Mf) := ef
  obtain ⟨M1, e1, f1, g1⟩ := zR_goes h
  have ok : ∀ v : Nat, zR_V ((ff_M_must 52 1 1 M).bind fun p => (ff_M_goesOn 52 p.2).bind fun M2 => some (nI v, M2)) M tx (.inl (v, zT_e tx e)) := by
    intro v
    rw [zR_mustT h, Option.bind_some]
    show zR_V ((ff_M_goesOn 52 M).bind fun M2 => some (nI v, M2)) M tx _
    rw [e1, Option.bind_some]
    exact ⟨_, M1, rfl, f1, rfl, g1⟩
  have bad : zR_V ((ff_M_must 52 0 1 M).bind fun p => (ff_M_goesOn 52 p.2).bind fun M2 => some (nI 2, M2)) M tx (.inr (1, zT_s' tx e)) := by
    rw [ef', Option.bind_some]
    show zR_V ((ff_M_goesOn 52 Mf).bind fun M2 => some (nI 2, M2)) M tx _
    rw [zR_goesE gf, Option.bind_some]
    exact ⟨_, Mf, rfl, ff, gf⟩
  unfold ff_M_readsOperator bd_2 zT_opr
  rw [zq_gd (zR_e h)]
  simp only [zq_jp, zR_word h (show 6 < 31 by omega), zR_word h (show 7 < 31 by omega), zR_word h (show 8 < 31 by omega), Option.bind_some, zb_0, decide_eq_false_iff_not]
  by_cases c6 : zT_W tx e 6
  · rw [if_neg (fun z => z c6), if_pos c6, if_neg (by decide)]
    exact ok 0
  · rw [if_pos c6, if_neg c6]
    by_cases c7 : zT_W tx e 7
    · rw [if_neg (fun z => z c7), if_pos c7, if_neg (by decide)]
      exact ok 1
    · rw [if_pos c7, if_neg c7]
      by_cases c8 : zT_W tx e 8
      · rw [if_pos trivial, if_neg (fun z => z c8), if_pos c8]
        exact ok 2
      · rw [if_pos trivial, if_pos c8, if_neg c8]
        exact bad
end ZRT
