/-! ===== the class's first state ===== -/
def zi_tx : (Nat → Nat) × Nat := (fun i => (zW_t 0).getD i 0, 160)
theorem zi_fill {M : mm_T} (hp : ky_p M) : ∃ M', ff_S_fillBuffer 41 (st_B + 0) M = some M' ∧ zf_F M M' (fun a => a = 41 ∨ a = 42) ∧ ky_x M' zi_tx := by
  have e41 : (mm_k M 41).1 = 6 := by rw [hp.1]
  have l160 : gs_len.getD 0 0 = 160 := by decide +kernel
  have len : ∀ N, ff_JS_length (st_B + 0) N = some (nI 160) := fun N => by
    unfold ff_JS_length
    rw [if_pos ⟨by omega, by unfold gs_N; omega⟩, Nat.add_sub_cancel_left, l160]
    rfl
  unfold ff_S_fillBuffer ff_S_clearBuffer
  rw [zq_gd e41, zq_gd e41, zp_I e41, Option.bind_some, Option.bind_some]
  have f0 : zf_F M (mm_sI M 41 1 0) (fun a => a = 41 ∨ a = 42) := zf_I (Or.inl rfl) _ _
  refine zh_up (F := fun fu q N => lf_S_fillBuffer_6 41 (st_B + 0) fu q N) (Q := fun M' => zf_F M M' (fun a => a = 41 ∨ a = 42) ∧ ky_x M' zi_tx) 160 (fun j N => zf_F M N (fun a => a = 41 ∨ a = 42) ∧ ∃ g : Nat → Nat, (∀ i, i < j → g i = (zW_t 0).getD i 0) ∧ ky_x N (g, j)) ?_ ?_ fu_L 0 (mm_sI M 41 1 0) (by omega) (by rw [zs_fuel]; omega) ⟨f0, fun _ => 0, fun i hi => absurd hi (Nat.not_lt_zero _), ?_⟩
  · intro fu j N hj ⟨g1, g, g2, g3⟩ k
    obtain ⟨c3, c4⟩ := zW_tc 0 (by omega) j (by omega)
    have ch : ff_JS_charAt (st_B + 0) (nI j) N = some (nI ((zW_t 0).getD j 0)) := by
      have e := nI_toInt (n := j) (by omega)
      unfold ff_JS_charAt
      rw [e, Nat.add_sub_cancel_left, if_pos ⟨⟨by omega, by unfold gs_N; omega⟩, by omega, by omega⟩, Int.toNat_natCast, c3]
    obtain ⟨N', e1, f1, x1, _⟩ := kT_addC (hp.keep g1) g3 c4 (by show j < 700; omega)
    show zh_H (lb_S_fillBuffer_6 41 (st_B + 0) (lf_S_fillBuffer_6 41 (st_B + 0) fu) (nI j) N) _
    unfold lb_S_fillBuffer_6
    rw [len, Option.bind_some, if_neg (nI_ge (by omega) (by omega)), if_neg (show ¬ (700 : Int32) ≤ nI j from nI_ge (b := 700) (a := j) (by omega) (by omega)), ch, Option.bind_some, e1, Option.bind_some, Option.bind_some, nI_1]
    refine k N' ⟨zf_tr g1 f1, (zT_add (g, j) ((zW_t 0).getD j 0)).1, fun i hi => ?_, x1⟩
    show (if i = j then (zW_t 0).getD j 0 else g i) = _
    by_cases c : i = j
    · rw [if_pos c, c]
    · rw [if_neg c]; exact g2 i (by omega)
  · intro fu N ⟨g1, g, g2, g3⟩
    show zh_H (lb_S_fillBuffer_6 41 (st_B + 0) (lf_S_fillBuffer_6 41 (st_B + 0) fu) (nI 160) N) _
    unfold lb_S_fillBuffer_6
    rw [len, Option.bind_some, if_pos (nI_le (by omega) (by omega))]
    refine zh_some ⟨g1, g3.1, by show 160 ≤ 700; omega, fun i hi => ?_⟩
    have hi' : i < 160 := hi
    have := g3.2.2 i hi'
    have e : g i = (zW_t 0).getD i 0 := g2 i hi'
    show mm_I N 42 i = nI ((zW_t 0).getD i 0) ∧ (zW_t 0).getD i 0 < 256
    rw [← e]
    exact this
  · refine ⟨?_, Nat.zero_le _, fun i hi => absurd hi (Nat.not_lt_zero _)⟩
    rw [zm_II, if_pos ⟨rfl, rfl⟩]; rfl
/-- the first program -/
def zi_P : zp_T := match zT_parse zi_tx with
  | .inl Q => Q
  | .inr _ => zQ_0
theorem zi_Ps : zT_parse zi_tx = .inl zi_P := by
  have h : (match zT_parse zi_tx with | .inl _ => true | .inr _ => false) = true := by decide +kernel
  unfold zi_P
  cases e : zT_parse zi_tx with
  | inl Q => rfl
  | inr a => rw [e] at h; cases h
def zi_of (P : zp_T) : zy_T := (P, ((fun _ => P), 0), (none, none), ((fun _ => 0), 0), (0, -1), ((fun _ => 0), 0))
