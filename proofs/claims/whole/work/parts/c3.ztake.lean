/-! ===== what a parser takes; the class takes it ===== -/
abbrev zT_W (tx : (Nat → Nat) × Nat) (e i : Nat) : Prop := zT_k tx e = 1 ∧ zT_e tx e - zT_s' tx e = (zW_t i).length ∧ ∀ j, j < (zW_t i).length → tx.1 (zT_s' tx e + j) = (zW_t i).getD j 0
abbrev zT_R : Type := Nat × Nat
def zT_bind {α β : Type} (x : α ⊕ zT_R) (k : α → β ⊕ zT_R) : β ⊕ zT_R := match x with
  | .inl a => k a
  | .inr e => .inr e
def zT_var (tx : (Nat → Nat) × Nat) (e : Nat) : (Nat × Nat) ⊕ zT_R := if zT_k tx e = 1 ∧ zT_e tx e - zT_s' tx e = 1 ∧ tx.1 (zT_s' tx e) < 105 then .inl (tx.1 (zT_s' tx e) - 97, zT_e tx e) else .inr (1, zT_s' tx e)
def zT_num (tx : (Nat → Nat) × Nat) (m e : Nat) : (Nat × Nat) ⊕ zT_R := if zT_k tx e = 2 then (if zT_v tx e ≤ m then .inl (zT_v tx e, zT_e tx e) else .inr (2, zT_s' tx e)) else .inr (1, zT_s' tx e)
def zT_opr (tx : (Nat → Nat) × Nat) (e : Nat) : (Nat × Nat) ⊕ zT_R := if zT_W tx e 6 then .inl (0, zT_e tx e) else if zT_W tx e 7 then .inl (1, zT_e tx e) else if zT_W tx e 8 then .inl (2, zT_e tx e) else .inr (1, zT_s' tx e)
def zT_sem (tx : (Nat → Nat) × Nat) (e : Nat) : Nat ⊕ zT_R := if zT_k tx e = 3 then .inl (zT_e tx e) else .inr (1, zT_s' tx e)
/-- an error was told -/
def zP_X (M M' : mm_T) (tx : (Nat → Nat) × Nat) (c : Nat) (q : Int32) : Prop := zf_F M M' (fun a => a = 9) ∧ zy_x M' tx ∧ (∃ e, zT_C M' tx e) ∧ mm_I M' 9 2 = nI c ∧ mm_I M' 9 3 = q
def zP_V (X : Option (Int32 × mm_T)) (M : mm_T) (tx : (Nat → Nat) × Nat) (r : (Nat × Nat) ⊕ zT_R) : Prop := match r with
  | .inl a => ∃ M', X = some (nI a.1, M') ∧ zT_FC M M' ∧ zT_C M' tx a.2
  | .inr a => ∃ w M', X = some (w, M') ∧ zP_X M M' tx a.1 (nI a.2)
def zP_U (X : Option mm_T) (M : mm_T) (tx : (Nat → Nat) × Nat) (r : Nat ⊕ zT_R) : Prop := match r with
  | .inl e => ∃ M', X = some M' ∧ zT_FC M M' ∧ zT_C M' tx e
  | .inr a => ∃ M', X = some M' ∧ zP_X M M' tx a.1 (nI a.2)
section ZYC3
variable {M : mm_T} {tx : (Nat → Nat) × Nat} {e : Nat}
theorem zP_e9 (hp : zy_p M) : (mm_k M 9).1 = 6 := by rw [hp.1]
theorem zT_isWC (hp : zy_p M) (hx : zy_x M tx) (hT : zT_C M tx e) {i : Nat} (hi : i < 31) : ff_S_isWord 9 (st_B + i) M = some (zb_B (decide (zT_W tx e i))) := by
  have h7 := hx.2.1
  have e9 := zP_e9 hp
  have el := zW_tl i hi
  have hel := zT_e_le hT.1
  have hsl := zT_s_le hT.1
  have hkl := zT_k_le tx e
  have len : ff_JS_length (st_B + i) M = some (nI (gs_len.getD i 0)) := by
    unfold ff_JS_length
    rw [if_pos ⟨by omega, by unfold gs_N; omega⟩, Nat.add_sub_cancel_left]
    rfl
  have l31 : ∀ i, i < 31 → gs_len.getD i 0 < 200 := by decide +kernel
  have hb := l31 i hi
  unfold ff_S_isWord
  rw [zq_gd e9, zg_I e9, Option.bind_some, hT.2.1]
  by_cases c1 : zT_k tx e = 1
  · rw [if_pos (by rw [c1]; rfl), zg_I e9, Option.bind_some, hT.2.2.2.1, zg_I e9, Option.bind_some, hT.2.2.1, len, Option.bind_some, zi_sub hel.1]
    by_cases c2 : zT_e tx e - zT_s' tx e = (zW_t i).length
    · rw [if_pos (by rw [c2, el])]
      refine zh_is (zh_up (F := fun fu j (_ : Unit) => lf_S_isWord_28 9 (st_B + i) M fu j) (Q := fun y => y = zb_B (decide (zT_W tx e i))) (gs_len.getD i 0) (fun j _ => ∀ k, k < j → tx.1 (zT_s' tx e + k) = (zW_t i).getD k 0) ?_ ?_ fu_L 0 () (Nat.zero_le _) (by rw [zs_fuel]; omega) (fun k hk => absurd hk (Nat.not_lt_zero _)))
      · intro fu j _ hj g k
        obtain ⟨c3, c4⟩ := zW_tc i hi j hj
        have ch : ff_JS_charAt (st_B + i) (nI j) M = some (nI ((zW_t i).getD j 0)) := by
          have e := nI_toInt (n := j) (by omega)
          unfold ff_JS_charAt
          rw [e, Nat.add_sub_cancel_left, if_pos ⟨⟨by omega, by unfold gs_N; omega⟩, by omega, by omega⟩, Int.toNat_natCast, c3]
        have hin : zT_s' tx e + j < tx.2 := by omega
        have h256 := (hx.2.2 _ hin).2
        show zh_H (lb_S_isWord_28 9 (st_B + i) M (lf_S_isWord_28 9 (st_B + i) M fu) (nI j)) _
        unfold lb_S_isWord_28
        rw [len, Option.bind_some, if_neg (nI_ge hj (by omega)), zg_R e9, Option.bind_some, hp.2.1.1, zg_I e9, Option.bind_some, hT.2.2.1, nI_add, zT_atC hp hx hin, Option.bind_some, ch, Option.bind_some]
        by_cases c5 : tx.1 (zT_s' tx e + j) = (zW_t i).getD j 0
        · rw [if_pos (by rw [c5]), Option.bind_some, nI_1]
          refine k () (fun x hx => ?_)
          rcases Nat.lt_or_ge x j with q | q
          · exact g x q
          · rw [show x = j by omega]; exact c5
        · rw [if_neg (fun z => c5 ((nI_eq (by omega) (by omega)).mp z)), decide_eq_false (fun z => c5 (z.2.2 j (by omega)))]
          exact zh_some rfl
      · intro fu _ g
        show zh_H (lb_S_isWord_28 9 (st_B + i) M (lf_S_isWord_28 9 (st_B + i) M fu) (nI (gs_len.getD i 0))) _
        unfold lb_S_isWord_28
        rw [len, Option.bind_some, if_pos (nI_le (Nat.le_refl _) (by omega)), decide_eq_true ⟨c1, c2, fun j hj => g j (by omega)⟩]
        exact zh_some rfl
    · rw [if_neg (fun z => c2 (by rw [el]; exact (nI_eq (by omega) (by omega)).mp z)), decide_eq_false (fun z => c2 z.2.1)]
      rfl
  · rw [if_neg (show ¬ nI (zT_k tx e) = (1 : Int32) from fun z => c1 ((nI_eq (b := 1) (by omega) (by omega)).mp z)), decide_eq_false (fun z => c1 z.1)]
    rfl
theorem zT_readC' (hp : zy_p M) (hx : zy_x M tx) (hT : zT_C M tx e) : ∃ M', ff_S_readToken 9 M = some M' ∧ zT_FC M M' ∧ zT_C M' tx (zT_e tx e) := zT_readC hp hx (zT_e_le hT.1).2.1 hT.2.2.2.1
theorem zP_fail (hp : zy_p M) (hx : zy_x M tx) (hT : zT_C M tx e) (h2 : mm_I M 9 2 = 0) (c p : Nat) : ∃ M', ff_S_fail 9 (nI c) (nI p) M = some M' ∧ zP_X M M' tx c (nI p) := by
  have e9 := zP_e9 hp
  unfold ff_S_fail
  have e9' : (mm_k (mm_sI M 9 2 (nI c)) 9).1 = 6 := e9
  rw [zq_gd e9, zg_I e9, Option.bind_some, h2, if_pos rfl, zp_I e9, Option.bind_some, zp_I e9', Option.bind_some]
  have j : ∀ k, k ≠ 2 → k ≠ 3 → mm_I (mm_sI (mm_sI M 9 2 (nI c)) 9 3 (nI p)) 9 k = mm_I M 9 k := fun k z1 z2 => by rw [zm_II, if_neg (fun z => z2 z.2), zm_II, if_neg (fun z => z1 z.2)]
  refine ⟨_, rfl, zf_tr (zf_I1 _ _ _ _) (zf_I1 _ _ _ _), ⟨(j 1 (by omega) (by omega)).trans hx.1, hx.2.1, fun i hi => ⟨by rw [zm_II, if_neg (by omega), zm_II, if_neg (by omega)]; exact (hx.2.2 i hi).1, (hx.2.2 i hi).2⟩⟩, ⟨e, hT.1, (j 4 (by omega) (by omega)).trans hT.2.1, (j 5 (by omega) (by omega)).trans hT.2.2.1, (j 6 (by omega) (by omega)).trans hT.2.2.2.1, (j 7 (by omega) (by omega)).trans hT.2.2.2.2⟩, ?_, ?_⟩
  · rw [zm_II, if_neg (by omega), zm_II, if_pos ⟨rfl, rfl⟩]
  · rw [zm_II, if_pos ⟨rfl, rfl⟩]
theorem zP_fail2 (hp : zy_p M) (h2 : mm_I M 9 2 ≠ 0) (c p : Int32) : ff_S_fail 9 c p M = some M := by
  have e9 := zP_e9 hp
  unfold ff_S_fail
  rw [zq_gd e9, zg_I e9, Option.bind_some, if_neg h2]
/-! in an error nothing of note happens any more -/
def zP_D (M : mm_T) (tx : (Nat → Nat) × Nat) (c : Nat) (q : Int32) : Prop := zy_p M ∧ zy_x M tx ∧ (∃ e, zT_C M tx e) ∧ mm_I M 9 2 = nI c ∧ mm_I M 9 3 = q ∧ 0 < c ∧ c < 5
theorem zP_D.ne {c : Nat} {q : Int32} (h : zP_D M tx c q) : mm_I M 9 2 ≠ 0 := by rw [h.2.2.2.1]; exact nI_ne0 h.2.2.2.2.2.1 (by have := h.2.2.2.2.2.2; omega)
theorem zP_D.x {c : Nat} {q : Int32} (h : zP_D M tx c q) : zP_X M M tx c q := ⟨zf_rfl _ _, h.2.1, h.2.2.1, h.2.2.2.1, h.2.2.2.2.1⟩
theorem zP_X.d {M' : mm_T} {c : Nat} {q : Int32} (hp : zy_p M) (h : zP_X M M' tx c q) (h0 : 0 < c) (h5 : c < 5) : zP_D M' tx c q := ⟨hp.keep h.1, h.2.1, h.2.2.1, h.2.2.2.1, h.2.2.2.2, h0, h5⟩
theorem zP_X.tr {M1 M2 : mm_T} {c : Nat} {q : Int32} (f : zf_F M M1 (fun a => a = 9)) (h : zP_X M1 M2 tx c q) : zP_X M M2 tx c q := ⟨zf_tr f h.1, h.2⟩
theorem zP_read {c : Nat} {q : Int32} (h : zP_D M tx c q) : ∃ M', ff_S_readToken 9 M = some M' ∧ zP_X M M' tx c q := by
  obtain ⟨hp, hx, ⟨e, hT⟩, h2, h3, _⟩ := h
  obtain ⟨M', e1, f1, t1⟩ := zT_readC' hp hx hT
  exact ⟨M', e1, f1.1, zT_xk hx f1, ⟨_, t1⟩, (f1.2 2 (by omega)).trans h2, (f1.2 3 (by omega)).trans h3⟩
theorem zP_varD {c : Nat} {q : Int32} (h : zP_D M tx c q) : ∃ w M', ff_S_takeVariable 9 M = some (w, M') ∧ zP_X M M' tx c q := by
  have e9 := zP_e9 h.1
  obtain ⟨e, hT⟩ := h.2.2.1
  have hx := h.2.1
  have h7 := hx.2.1
  have hs := zT_s_le hT.1
  obtain ⟨x, ex⟩ : ∃ x, ff_D_at_a 10 (nI (zT_s' tx e)) M = some x := by
    rcases Nat.lt_or_ge (zT_s' tx e) tx.2 with z | z
    · exact ⟨_, zT_atC h.1 hx z⟩
    · by_cases z2 : zT_s' tx e < 700
      · exact ⟨_, zd_at h.1.2.2.1 z2 (by omega)⟩
      · exact ⟨_, zd_atO h.1.2.2.1 (by omega) (by omega)⟩
  obtain ⟨M1, e1, x1⟩ := zP_read h
  unfold ff_S_takeVariable
  simp only [zq_gd e9, zg_R e9, zg_I e9, Option.bind_some, h.1.2.1.1, hT.2.2.1, ex, zq_jp, zP_fail2 h.1 h.ne, e1]
  split
  · split
    · split
      · exact ⟨_, M1, rfl, x1⟩
      · exact ⟨_, M, rfl, h.x⟩
    · exact ⟨_, M, rfl, h.x⟩
  · exact ⟨_, M, rfl, h.x⟩
theorem zP_numD {c : Nat} {q : Int32} (h : zP_D M tx c q) (m : Int32) : ∃ w M', ff_S_takeNumber 9 m M = some (w, M') ∧ zP_X M M' tx c q := by
  have e9 := zP_e9 h.1
  obtain ⟨M1, e1, x1⟩ := zP_read h
  unfold ff_S_takeNumber
  simp only [zq_gd e9, zg_I e9, Option.bind_some, zq_jp, zP_fail2 h.1 h.ne, e1]
  split
  · split
    · exact ⟨_, M1, rfl, x1⟩
    · exact ⟨_, M, rfl, h.x⟩
  · exact ⟨_, M, rfl, h.x⟩
theorem zP_oprD {c : Nat} {q : Int32} (h : zP_D M tx c q) : ∃ w M', ff_S_takeOperator 9 M = some (w, M') ∧ zP_X M M' tx c q := by
  have e9 := zP_e9 h.1
  obtain ⟨e, hT⟩ := h.2.2.1
  obtain ⟨M1, e1, x1⟩ := zP_read h
  unfold ff_S_takeOperator
  simp only [zq_gd e9, zg_I e9, zT_isWC h.1 h.2.1 hT (show 6 < 31 by omega), zT_isWC h.1 h.2.1 hT (show 7 < 31 by omega), zT_isWC h.1 h.2.1 hT (show 8 < 31 by omega), Option.bind_some, zq_jp, zP_fail2 h.1 h.ne, e1]
  repeat' split
  all_goals first | exact ⟨_, M1, rfl, x1⟩ | exact ⟨_, M, rfl, h.x⟩
theorem zP_semD {c : Nat} {q : Int32} (h : zP_D M tx c q) : ∃ M', ff_S_takeSemicolon 9 M = some M' ∧ zP_X M M' tx c q := by
  have e9 := zP_e9 h.1
  obtain ⟨M1, e1, x1⟩ := zP_read h
  unfold ff_S_takeSemicolon
  simp only [zq_gd e9, zg_I e9, Option.bind_some, zP_fail2 h.1 h.ne, e1]
  split
  · exact ⟨M1, rfl, x1⟩
  · exact ⟨M, rfl, h.x⟩
/-! without an error -/
theorem zP_var (hp : zy_p M) (hx : zy_x M tx) (hT : zT_C M tx e) (h2 : mm_I M 9 2 = 0) : zP_V (ff_S_takeVariable 9 M) M tx (zT_var tx e) := by
  have e9 := zP_e9 hp
  have h7 := hx.2.1
  have hs := zT_s_le hT.1
  have hel := zT_e_le hT.1
  have hkl := zT_k_le tx e
  obtain ⟨M1, e1, f1, t1⟩ := zT_readC' hp hx hT
  obtain ⟨M2, e2, x2⟩ := zP_fail hp hx hT h2 1 (zT_s' tx e)
  have e2' : ff_S_fail 9 1 (nI (zT_s' tx e)) M = some M2 := e2
  have bad : zP_V (some (-1, M2)) M tx (.inr (1, zT_s' tx e)) := ⟨_, M2, rfl, x2⟩
  unfold zT_var
  by_cases c1 : zT_k tx e = 1
  · have hlt : zT_s' tx e < tx.2 := zT_k0.mp (by omega)
    have h256 := (hx.2.2 _ hlt).2
    have hle := zT_let (b := tx.1 (zT_s' tx e)) (by rw [zT_in (Or.inl c1) (Nat.le_refl _) (hel.2.2 (by omega)), c1])
    have ea := zT_atC hp hx hlt
    unfold ff_S_takeVariable
    simp only [zq_gd e9, zg_R e9, zg_I e9, Option.bind_some, hp.2.1.1, hT.2.2.1, ea, zq_jp, hT.2.1, hT.2.2.2.1, e1, e2']
    rw [if_pos (show nI (zT_k tx e) = (1 : Int32) by rw [c1]; rfl), zi_sub hel.1, show (97 : Int32) = nI 97 from rfl, zi_sub hle.1]
    by_cases c2 : zT_e tx e - zT_s' tx e = 1
    · rw [if_pos (by rw [c2]; rfl)]
      by_cases c3 : tx.1 (zT_s' tx e) < 105
      · rw [if_pos (show nI (tx.1 (zT_s' tx e) - 97) < (8 : Int32) from nI_lt (b := 8) (by omega) (by omega)), if_pos ⟨c1, c2, c3⟩]
        exact ⟨M1, rfl, f1, t1⟩
      · rw [if_neg (show ¬ nI (tx.1 (zT_s' tx e) - 97) < (8 : Int32) from nI_nlt (b := 8) (by omega) (by omega)), if_neg (fun z => c3 z.2.2)]
        exact bad
    · rw [if_neg (show ¬ nI (zT_e tx e - zT_s' tx e) = (1 : Int32) from fun z => c2 ((nI_eq (b := 1) (by omega) (by omega)).mp z)), if_neg (fun z => c2 z.2.1)]
      exact bad
  · obtain ⟨x, ex⟩ : ∃ x, ff_D_at_a 10 (nI (zT_s' tx e)) M = some x := by
      by_cases z2 : zT_s' tx e < 700
      · exact ⟨_, zd_at hp.2.2.1 z2 (by omega)⟩
      · exact ⟨_, zd_atO hp.2.2.1 (by omega) (by omega)⟩
    unfold ff_S_takeVariable
    simp only [zq_gd e9, zg_R e9, zg_I e9, Option.bind_some, hp.2.1.1, hT.2.2.1, ex, zq_jp, hT.2.1, e2']
    rw [if_neg (show ¬ nI (zT_k tx e) = (1 : Int32) from fun z => c1 ((nI_eq (b := 1) (by omega) (by omega)).mp z)), if_neg (fun z => c1 z.1)]
    exact bad
theorem zP_num (hp : zy_p M) (hx : zy_x M tx) (hT : zT_C M tx e) (h2 : mm_I M 9 2 = 0) {m : Nat} (hm : m < 1000) : zP_V (ff_S_takeNumber 9 (nI m) M) M tx (zT_num tx m e) := by
  have e9 := zP_e9 hp
  have h7 := hx.2.1
  have hkl := zT_k_le tx e
  have hv := zT_v_le tx e
  obtain ⟨M1, e1, f1, t1⟩ := zT_readC' hp hx hT
  obtain ⟨M2, e2, x2⟩ := zP_fail hp hx hT h2 1 (zT_s' tx e)
  obtain ⟨M3, e3, x3⟩ := zP_fail hp hx hT h2 2 (zT_s' tx e)
  have e2' : ff_S_fail 9 1 (nI (zT_s' tx e)) M = some M2 := e2
  have e3' : ff_S_fail 9 2 (nI (zT_s' tx e)) M = some M3 := e3
  unfold ff_S_takeNumber zT_num
  simp only [zq_gd e9, zg_I e9, Option.bind_some, zq_jp, hT.2.1, hT.2.2.1, hT.2.2.2.2, e1, e2', e3']
  by_cases c1 : zT_k tx e = 2
  · rw [if_pos (show nI (zT_k tx e) = (2 : Int32) by rw [c1]; rfl), if_pos c1]
    by_cases c2 : zT_v tx e ≤ m
    · rw [if_pos (nI_le c2 (by omega)), if_pos c2]
      exact ⟨M1, rfl, f1, t1⟩
    · rw [if_neg (nI_ge (by omega) (by omega)), if_neg c2, if_pos (show nI (zT_k tx e) = (2 : Int32) by rw [c1]; rfl)]
      exact ⟨_, M3, rfl, x3⟩
  · have n2 : ¬ nI (zT_k tx e) = (2 : Int32) := fun z => c1 ((nI_eq (b := 2) (by omega) (by omega)).mp z)
    rw [if_neg n2, if_neg c1, if_neg n2]
    exact ⟨_, M2, rfl, x2⟩
theorem zP_opr (hp : zy_p M) (hx : zy_x M tx) (hT : zT_C M tx e) (h2 : mm_I M 9 2 = 0) : zP_V (ff_S_takeOperator 9 M) M tx (zT_opr tx e) := by
  have e9 := zP_e9 hp
  obtain ⟨M1, e1, f1, t1⟩ := zT_readC' hp hx hT
  obtain ⟨M2, e2, x2⟩ := zP_fail hp hx hT h2 1 (zT_s' tx e)
  have e2' : ff_S_fail 9 1 (nI (zT_s' tx e)) M = some M2 := e2
  unfold ff_S_takeOperator zT_opr
  simp only [zq_gd e9, zg_I e9, zT_isWC hp hx hT (show 6 < 31 by omega), zT_isWC hp hx hT (show 7 < 31 by omega), zT_isWC hp hx hT (show 8 < 31 by omega), Option.bind_some, zq_jp, hT.2.2.1, e1, e2', zb_0, decide_eq_false_iff_not]
  by_cases c6 : zT_W tx e 6
  · rw [if_neg (fun z => z c6), if_pos c6, if_neg (by decide)]
    exact ⟨M1, rfl, f1, t1⟩
  · rw [if_pos c6, if_neg c6]
    by_cases c7 : zT_W tx e 7
    · rw [if_neg (fun z => z c7), if_pos c7, if_neg (by decide)]
      exact ⟨M1, rfl, f1, t1⟩
    · rw [if_pos c7, if_neg c7]
      by_cases c8 : zT_W tx e 8
      · rw [if_neg (fun z => z c8), if_pos c8, if_neg (by decide)]
        exact ⟨M1, rfl, f1, t1⟩
      · rw [if_pos c8, if_neg c8, if_pos trivial]
        exact ⟨_, M2, rfl, x2⟩
theorem zP_sem (hp : zy_p M) (hx : zy_x M tx) (hT : zT_C M tx e) (h2 : mm_I M 9 2 = 0) : zP_U (ff_S_takeSemicolon 9 M) M tx (zT_sem tx e) := by
  have e9 := zP_e9 hp
  have hkl := zT_k_le tx e
  obtain ⟨M1, e1, f1, t1⟩ := zT_readC' hp hx hT
  obtain ⟨M2, e2, x2⟩ := zP_fail hp hx hT h2 1 (zT_s' tx e)
  have e2' : ff_S_fail 9 1 (nI (zT_s' tx e)) M = some M2 := e2
  unfold ff_S_takeSemicolon zT_sem
  simp only [zq_gd e9, zg_I e9, Option.bind_some, hT.2.1, hT.2.2.1, e1, e2']
  by_cases c : zT_k tx e = 3
  · rw [if_pos (by rw [c]; rfl), if_pos c]
    exact ⟨M1, rfl, f1, t1⟩
  · rw [if_neg (show ¬ nI (zT_k tx e) = (3 : Int32) from fun z => c ((nI_eq (b := 3) (by omega) (by omega)).mp z)), if_neg c]
    exact ⟨M2, rfl, x2⟩
end ZYC3
