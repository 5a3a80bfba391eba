/-! ===== the class writes ===== -/
def zW_A (a : Nat) : Prop := a = 13 ∨ a = 14
def zW_c (M0 : mm_T) (M : mm_T) (l : List Nat) : Prop := zf_F M0 M zW_A ∧ mm_I M 13 1 = nI l.length ∧ ∀ i, i < l.length → mm_I M 14 i = nI (l.getD i 0)
theorem zy_w.keep {M M' : mm_T} {A : Nat → Prop} (h : zy_w M) (hf : zf_F M M' A) : zy_w M' := by
  unfold zy_w
  simp only [zf_k hf, zf_R hf]
  exact h
section ZYB9
variable {M0 : mm_T}
theorem zW_e13 {M : mm_T} {l : List Nat} (hw : zy_w M0) (h : zW_c M0 M l) : (mm_k M 13).1 = 9 := by rw [(hw.keep h.1).1]
theorem zW_sinkC (hw : zy_w M0) : zW_S (zW_c M0) (fun b M => ff_W_writeByte 13 b M) := by
  intro M l b h hl
  have hwM := hw.keep h.1
  have e13 := zW_e13 hw h
  show ∃ M', ff_W_writeByte 13 (nI b) M = some M' ∧ _
  unfold ff_W_writeByte
  rw [zq_gd e13, zg_R e13, Option.bind_some, hwM.2.1, zg_I e13, Option.bind_some, h.2.1, zd_put hwM.2.2 (show l.length < 704 by omega) (by omega), Option.bind_some]
  have f1 : zf_F M (mm_sI M 14 l.length (nI b)) zW_A := zf_I (Or.inr rfl) _ _
  have e13' : (mm_k (mm_sI M 14 l.length (nI b)) 13).1 = 9 := e13
  rw [zg_I e13', Option.bind_some, zp_I e13', Option.bind_some, zm_II, if_neg (by omega), h.2.1, nI_1]
  refine ⟨_, rfl, zf_tr h.1 (zf_tr f1 (zf_I (Or.inl rfl) _ _)), ?_, fun i hi => ?_⟩
  · rw [zm_II, if_pos ⟨rfl, rfl⟩, List.length_append]
    rfl
  · rw [List.length_append] at hi
    have hi' : i < l.length + 1 := hi
    rw [zm_II, if_neg (by omega), zm_II]
    by_cases c : i = l.length
    · rw [if_pos ⟨rfl, c⟩, c, zW_gR]
    · rw [if_neg (fun z => c z.2), zW_gL (by omega)]
      exact h.2.2 i (by omega)
theorem zW_varC (hw : zy_w M0) {M : mm_T} {l : List Nat} (h : zW_c M0 M l) {v : Nat} (hl : l.length + 2 ≤ 700) : ∃ M', ff_W_writeVariable 13 (nI v) M = some M' ∧ zW_c M0 M' (l ++ zW_var v) := by
  unfold ff_W_writeVariable
  rw [zq_gd (zW_e13 hw h)]
  exact zW_Svar (zW_sinkC hw) h hl
theorem zW_textC (hw : zy_w M0) {M : mm_T} {l : List Nat} (h : zW_c M0 M l) {i : Nat} (hi : i < 31) (hl : l.length + (zW_t i).length ≤ 700) : ∃ M', ff_W_writeText 13 (st_B + i) M = some M' ∧ zW_c M0 M' (l ++ zW_t i) := by
  unfold ff_W_writeText
  rw [zq_gd (zW_e13 hw h)]
  exact zW_Stext (zW_sinkC hw) h hi hl (F := fun fu q N => lf_W_writeText_2 13 (st_B + i) fu q N) (fun fu q N => rfl)
theorem zW_numC (hw : zy_w M0) {M : mm_T} {l : List Nat} (h : zW_c M0 M l) {n : Nat} (hn : n < 1000) (hl : l.length + 4 ≤ 700) : ∃ M', ff_W_writeNumber 13 (nI n) M = some M' ∧ zW_c M0 M' (l ++ zW_num n) := by
  unfold ff_W_writeNumber
  rw [zq_gd (zW_e13 hw h)]
  exact zW_Snum (zW_sinkC hw) h hn hl (c100 := nI n < (100 : Int32)) (c10 := nI n < (10 : Int32)) (nI_ltI (b := 100) (by omega) (by omega)) (nI_ltI (b := 10) (by omega) (by omega))
theorem zW_opC (hw : zy_w M0) {M : mm_T} {l : List Nat} (h : zW_c M0 M l) {o : Nat} (ho : o ≤ 2) (hl : l.length + 6 ≤ 700) : ∃ M', ff_W_writeOperator 13 (nI o) M = some M' ∧ zW_c M0 M' (l ++ zW_t (25 + o)) := by
  have h6 : ∀ o, o ≤ 2 → (zW_t (25 + o)).length ≤ 6 := by decide +kernel
  obtain ⟨M', e, w⟩ := zW_textC hw h (i := 25 + o) (by omega) (by have := h6 o ho; omega)
  refine ⟨M', ?_, w⟩
  unfold ff_W_writeOperator
  rw [zq_gd (zW_e13 hw h), zq_jp]
  rcases (show o = 0 ∨ o = 1 ∨ o = 2 by omega) with z | z | z
  · subst z
    rw [if_pos nI_0]
    have e' : ff_W_writeText 13 (st_B + 25) M = some M' := e
    rw [e', Option.bind_some]
  · subst z
    have e' : ff_W_writeText 13 (st_B + 26) M = some M' := e
    rw [if_neg (by decide), if_pos (by decide)]
    show (ff_W_writeText 13 (st_B + 26) M).bind _ = _
    rw [e', Option.bind_some]
  · subst z
    have e' : ff_W_writeText 13 (st_B + 27) M = some M' := e
    rw [if_neg (by decide), if_neg (by decide)]
    show (ff_W_writeText 13 (st_B + 27) M).bind _ = _
    rw [e', Option.bind_some]
theorem zW_byteC (hw : zy_w M0) {M : mm_T} {l : List Nat} (h : zW_c M0 M l) (hl : l.length < 700) : ∃ M', ((ff_W_writeByte 13 (59 : Int32) M).bind fun M2 => some M2) = some M' ∧ zW_c M0 M' (l ++ [59]) := by
  obtain ⟨M', e, w⟩ := zW_sinkC hw M l 59 h hl
  have e' : ff_W_writeByte 13 59 M = some M' := e
  rw [e', Option.bind_some]
  exact ⟨M', rfl, w⟩
theorem zW_itemC (hw : zy_w M0) {M : mm_T} {l : List Nat} (h : zW_c M0 M l) {q : Nat × Nat × Nat × Nat × Nat} (hq : zp_iok q) (hl : l.length + 17 ≤ 700) : ∃ M', ff_W_writeInstruction 13 (nI (zp_W q)) M = some M' ∧ zW_c M0 M' (l ++ zW_item q) := by
  have t2 : (zW_t 2).length = 3 := by decide +kernel
  have t3 : (zW_t 3).length = 4 := by decide +kernel
  have t4 : (zW_t 4).length = 4 := by decide +kernel
  have t5 : (zW_t 5).length = 4 := by decide +kernel
  have vl : ∀ v, (zW_var v).length = 2 := fun _ => rfl
  have hn := zW_num_le q.2.2.1
  have hk3 := hq.1
  unfold ff_W_writeInstruction zW_item
  rw [zq_gd (zW_e13 hw h), zc_kind hq, Option.bind_some]
  simp only [zq_jp]
  by_cases c0 : q.1 = 0
  · rw [if_pos (by rw [c0]; rfl), if_pos c0]
    obtain ⟨M1, e1, w1⟩ := zW_textC hw h (i := 2) (by omega) (by omega)
    have l1 : (l ++ zW_t 2).length = l.length + 3 := by rw [List.length_append, t2]
    obtain ⟨M2, e2, w2⟩ := zW_varC hw w1 (v := q.2.1) (by omega)
    have l2 : (l ++ zW_t 2 ++ zW_var q.2.1).length = l.length + 5 := by rw [List.length_append, l1, vl]
    obtain ⟨M3, e3, w3⟩ := zW_numC hw w2 (n := q.2.2.1) hq.2.2.1 (by omega)
    obtain ⟨M4, e4, w4⟩ := zW_byteC hw w3 (by rw [List.length_append, l2]; omega)
    rw [e1, Option.bind_some, zc_target hq, Option.bind_some, e2, Option.bind_some, zc_const hq c0, Option.bind_some, e3, Option.bind_some]
    refine ⟨M4, e4, ?_⟩
    simp only [List.append_assoc] at w4 ⊢
    exact w4
  · rw [if_neg (nI_ne0 (by omega) (by omega)), if_neg c0]
    by_cases c1 : q.1 = 1
    · rw [if_pos (by rw [c1]; rfl), if_pos c1]
      obtain ⟨M1, e1, w1⟩ := zW_textC hw h (i := 3) (by omega) (by omega)
      have l1 : (l ++ zW_t 3).length = l.length + 4 := by rw [List.length_append, t3]
      obtain ⟨M2, e2, w2⟩ := zW_varC hw w1 (v := q.2.1) (by omega)
      have l2 : (l ++ zW_t 3 ++ zW_var q.2.1).length = l.length + 6 := by rw [List.length_append, l1, vl]
      obtain ⟨M3, e3, w3⟩ := zW_varC hw w2 (v := q.2.2.1) (by omega)
      obtain ⟨M4, e4, w4⟩ := zW_byteC hw w3 (by rw [List.length_append, l2, vl]; omega)
      rw [e1, Option.bind_some, zc_target hq, Option.bind_some, e2, Option.bind_some, zc_left hq c0, Option.bind_some, e3, Option.bind_some]
      refine ⟨M4, e4, ?_⟩
      simp only [List.append_assoc] at w4 ⊢
      exact w4
    · rw [if_neg (show ¬ nI q.1 = (1 : Int32) from fun z => c1 ((nI_eq (b := 1) (by omega) (by omega)).mp z)), if_neg c1]
      by_cases c2 : q.1 = 2
      · rw [if_pos (by rw [c2]; rfl), if_pos c2]
        have h6 : ∀ o, o ≤ 2 → (zW_t (25 + o)).length ≤ 6 := by decide +kernel
        have ho6 := h6 _ hq.2.2.2.2.1
        obtain ⟨M1, e1, w1⟩ := zW_textC hw h (i := 4) (by omega) (by omega)
        have l1 : (l ++ zW_t 4).length = l.length + 4 := by rw [List.length_append, t4]
        obtain ⟨M2, e2, w2⟩ := zW_varC hw w1 (v := q.2.1) (by omega)
        have l2 : (l ++ zW_t 4 ++ zW_var q.2.1).length = l.length + 6 := by rw [List.length_append, l1, vl]
        obtain ⟨M3, e3, w3⟩ := zW_varC hw w2 (v := q.2.2.1) (by omega)
        have l3 : (l ++ zW_t 4 ++ zW_var q.2.1 ++ zW_var q.2.2.1).length = l.length + 8 := by rw [List.length_append, l2, vl]
        obtain ⟨M4, e4, w4⟩ := zW_opC hw w3 (o := q.2.2.2.1) hq.2.2.2.2.1 (by omega)
        obtain ⟨M5, e5, w5⟩ := zW_varC hw w4 (v := q.2.2.2.2) (by rw [List.length_append, l3]; omega)
        obtain ⟨M6, e6, w6⟩ := zW_byteC hw w5 (by rw [List.length_append, List.length_append, l3, vl]; omega)
        rw [e1, Option.bind_some, zc_target hq, Option.bind_some, e2, Option.bind_some, zc_left hq c0, Option.bind_some, e3, Option.bind_some, zc_oper hq c0, Option.bind_some, e4, Option.bind_some, zc_right hq c0, Option.bind_some, e5, Option.bind_some]
        refine ⟨M6, e6, ?_⟩
        simp only [List.append_assoc] at w6 ⊢
        exact w6
      · rw [if_neg (show ¬ nI q.1 = (2 : Int32) from fun z => c2 ((nI_eq (b := 2) (by omega) (by omega)).mp z)), if_neg c2]
        obtain ⟨M1, e1, w1⟩ := zW_textC hw h (i := 5) (by omega) (by omega)
        have l1 : (l ++ zW_t 5).length = l.length + 4 := by rw [List.length_append, t5]
        obtain ⟨M2, e2, w2⟩ := zW_varC hw w1 (v := q.2.2.1) (by omega)
        obtain ⟨M3, e3, w3⟩ := zW_byteC hw w2 (by rw [List.length_append, l1, vl]; omega)
        rw [e1, Option.bind_some, zc_left hq c0, Option.bind_some, e2, Option.bind_some]
        refine ⟨M3, e3, ?_⟩
        simp only [List.append_assoc] at w3 ⊢
        exact w3
theorem zW_exitC (hw : zy_w M0) {P : zp_T} (hP0 : zo_P M0 45) (hH0 : zo_H M0 45 P) (hV : zp_V P) {M : mm_T} {l : List Nat} (h : zW_c M0 M l) {b : Nat} (hb : b < zp_nb P) (hl : l.length + 17 ≤ 700) : ∃ M', ff_W_writeExit 13 45 (nI b) M = some M' ∧ zW_c M0 M' (l ++ zW_exit (P.2.2.2.1 b)) := by
  have t9 : (zW_t 9).length = 4 := by decide +kernel
  have t10 : (zW_t 10).length = 4 := by decide +kernel
  have t11 : (zW_t 11).length = 6 := by decide +kernel
  have vl : ∀ v, (zW_var v).length = 2 := fun _ => rfl
  have hnf := zW_num_le (zp_f P b)
  have hns := zW_num_le (zp_s P b)
  have hw2 := zp_w_le hV hb
  have hnb := hV.2.1
  have pp : ∀ {N : mm_T} {l' : List Nat}, zW_c M0 N l' → zo_P N 45 ∧ zo_H N 45 P := fun g => ⟨hP0.keep g.1, hH0.keep (fun a q1 q2 k => zf_i g.1 (by unfold zW_A; omega) k)⟩
  have way : ∀ {N : mm_T} {l' : List Nat}, zW_c M0 N l' → ∀ k, k < zp_w P b → ff_P_wayOf 45 (nI b) (nI k) N = some (nI (zp_way P b k)) := fun g k hk => zr_wayOf (pp g).1 (pp g).2 hV hb hk
  unfold ff_W_writeExit
  rw [zq_gd (zW_e13 hw h), zr_wayCount (pp h).1 (pp h).2 hV hb, Option.bind_some]
  simp only [zq_jp]
  by_cases c0 : zp_w P b = 0
  · have ex : zW_exit (P.2.2.2.1 b) = zW_t 9 ++ [59] := by unfold zW_exit; rw [if_pos (show (P.2.2.2.1 b).1 = 0 from c0)]
    rw [if_pos (by rw [c0]; rfl), ex]
    obtain ⟨M1, e1, w1⟩ := zW_textC hw h (i := 9) (by omega) (by omega)
    obtain ⟨M2, e2, w2⟩ := zW_byteC hw w1 (by rw [List.length_append, t9]; omega)
    rw [e1, Option.bind_some]
    refine ⟨M2, e2, ?_⟩
    rw [List.append_assoc] at w2
    exact w2
  · rw [if_neg (nI_ne0 (by omega) (by omega))]
    by_cases c1 : zp_w P b = 1
    · have ex : zW_exit (P.2.2.2.1 b) = zW_t 10 ++ zW_num (zp_f P b) ++ [59] := by unfold zW_exit; rw [if_neg (show ¬ (P.2.2.2.1 b).1 = 0 from c0), if_pos (show (P.2.2.2.1 b).1 = 1 from c1)]; rfl
      rw [if_pos (by rw [c1]; rfl), ex]
      have hf := zp_way_lt hV hb (k := 0) (by omega)
      have ef : zp_way P b 0 = zp_f P b := if_pos rfl
      obtain ⟨M1, e1, w1⟩ := zW_textC hw h (i := 10) (by omega) (by omega)
      have l1 : (l ++ zW_t 10).length = l.length + 4 := by rw [List.length_append, t10]
      have ew : ff_P_wayOf 45 (nI b) 0 M1 = some (nI (zp_way P b 0)) := way w1 0 (by omega)
      obtain ⟨M2, e2, w2⟩ := zW_numC hw w1 (n := zp_f P b) (by omega) (by omega)
      obtain ⟨M3, e3, w3⟩ := zW_byteC hw w2 (by rw [List.length_append, l1]; omega)
      rw [e1, Option.bind_some, ew, Option.bind_some, ef, e2, Option.bind_some]
      refine ⟨M3, e3, ?_⟩
      simp only [List.append_assoc] at w3 ⊢
      exact w3
    · have c2 : zp_w P b = 2 := by omega
      have ex : zW_exit (P.2.2.2.1 b) = zW_t 11 ++ zW_var (zp_x P b) ++ zW_num (zp_f P b) ++ zW_num (zp_s P b) ++ [59] := by unfold zW_exit; rw [if_neg (show ¬ (P.2.2.2.1 b).1 = 0 from c0), if_neg (show ¬ (P.2.2.2.1 b).1 = 1 from c1)]; rfl
      rw [if_neg (show ¬ nI (zp_w P b) = (1 : Int32) by rw [c2]; decide), ex]
      have hf := zp_way_lt hV hb (k := 0) (by omega)
      have ef : zp_way P b 0 = zp_f P b := if_pos rfl
      have hs := zp_way_lt hV hb (k := 1) (by omega)
      have es : zp_way P b 1 = zp_s P b := if_neg (by omega)
      obtain ⟨M1, e1, w1⟩ := zW_textC hw h (i := 11) (by omega) (by omega)
      have l1 : (l ++ zW_t 11).length = l.length + 6 := by rw [List.length_append, t11]
      have et := zr_testedBy (pp w1).1 (pp w1).2 hV hb c2
      obtain ⟨M2, e2, w2⟩ := zW_varC hw w1 (v := zp_x P b) (by omega)
      have l2 : (l ++ zW_t 11 ++ zW_var (zp_x P b)).length = l.length + 8 := by rw [List.length_append, l1, vl]
      have ew : ff_P_wayOf 45 (nI b) 0 M2 = some (nI (zp_way P b 0)) := way w2 0 (by omega)
      obtain ⟨M3, e3, w3⟩ := zW_numC hw w2 (n := zp_f P b) (by omega) (by omega)
      have l3 : (l ++ zW_t 11 ++ zW_var (zp_x P b) ++ zW_num (zp_f P b)).length ≤ l.length + 12 := by rw [List.length_append, l2]; omega
      have ew2 : ff_P_wayOf 45 (nI b) 1 M3 = some (nI (zp_way P b 1)) := way w3 1 (by omega)
      obtain ⟨M4, e4, w4⟩ := zW_numC hw w3 (n := zp_s P b) (by omega) (by omega)
      obtain ⟨M5, e5, w5⟩ := zW_byteC hw w4 (by rw [List.length_append]; omega)
      rw [e1, Option.bind_some, et, Option.bind_some, e2, Option.bind_some, ew, Option.bind_some, ef, e3, Option.bind_some, ew2, Option.bind_some, es, e4, Option.bind_some]
      refine ⟨M5, e5, ?_⟩
      simp only [List.append_assoc] at w5 ⊢
      exact w5
end ZYB9
def zy_out (s : zy_T) (l : List Nat) : zy_T := (zy_P s, zy_u s, zy_n s, zy_t s, zy_c s, (fun i => l.getD i 0, l.length))
def zv_writeBlock (s : zy_T) (b : Int32) : (Nat × Int32) × zy_T := if zi_A (zp_nb (zy_P s)) b then ((0, nI (zW_block (zy_P s) (zi_n b)).length), zy_out s (zW_block (zy_P s) (zi_n b))) else ((1, 0), s)
def zv_outputByte (s : zy_T) (i : Int32) : Int32 := if zi_A (zy_v s).2 i then nI ((zy_v s).1 (zi_n i)) else -1
section ZYB9b
variable {M : mm_T} {s : zy_T}
theorem zy_writeBlock (h : zy_C M s) (b : Int32) : zy_Of ["java/lang/IndexOutOfBoundsException"] (ff_D_writeBlock 1 b M) M (zv_writeBlock s b) := by
  have hV := h.2.2.1.2.2
  have hni := hV.2.2.1
  have hw := h.1.2.1.2.2.1
  have h63 := h.1.1
  unfold ff_D_writeBlock zv_writeBlock
  rw [zq_gd (zc_e1 h.2)]
  refine zy_rq h (zc_reqB h.2 b) rfl (fun c1 => ?_)
  obtain ⟨hb, eb⟩ := zi_An c1
  generalize zi_n b = b' at hb eb
  subst eb
  have hse := zp_st_le hV (b := b' + 1) (by omega)
  have hms := hV.2.2.2.2.1 b' hb
  have e13 : (mm_k M 13).1 = 9 := by rw [hw.1]
  have ecl : ff_W_clear 13 M = some (mm_sI M 13 1 0) := by
    unfold ff_W_clear
    rw [zq_gd e13, zp_I e13, Option.bind_some]
  have f0 : zf_F M (mm_sI M 13 1 0) zW_A := zf_I (Or.inl rfl) _ _
  have w0 : zW_c M (mm_sI M 13 1 0) [] := ⟨f0, by rw [zm_II, if_pos ⟨rfl, rfl⟩]; rfl, fun i hi => absurd hi (Nat.not_lt_zero _)⟩
  have qq : ∀ {N : mm_T} {l : List Nat}, zW_c M N l → zc_Q N (zy_P s) := fun g => h.2.keepL (zl_F g.1) (fun a z => by unfold zW_A at z; omega)
  have d13 : ∀ {N : mm_T} {l : List Nat}, zW_c M N l → mm_R N 1 3 = 13 := fun g => (qq g).1.2.2.2.2.1
  rw [zg_R (zc_e1 h.2), Option.bind_some, h.2.1.2.2.2.2.1, ecl, Option.bind_some, zg_R (zc_e1 (qq w0)), Option.bind_some, (qq w0).1.2.1, zr_startOf (qq w0).2.1.1 (qq w0).2.1.2.1 hV (by omega), Option.bind_some]
  have fin : ∀ N, zW_c M N (zW_block (zy_P s) b') → zy_Y M N zy_A 100 2000 ∧ zy_C N (zy_out s (zW_block (zy_P s) b')) := by
    intro N g
    have fA : zy_Y M N zW_A 0 0 := zy_YX (zu_F g.1)
    have lb : (zW_block (zy_P s) b').length ≤ 700 := by
      have a1 := zW_items_le hV (zp_st (zy_P s) b') (zp_st (zy_P s) (b' + 1) - zp_st (zy_P s) b') (by omega)
      have a2 := zW_exit_le ((zy_P s).2.2.2.1 b')
      unfold zW_block
      rw [List.length_append]
      omega
    refine ⟨zy_Ywk fA (by omega) (by omega) (fun a _ z => by unfold zW_A at z; unfold zy_A; omega), ?_, qq g⟩
    obtain ⟨_, ⟨n1, n2, n3, n4⟩, hD, hU, ⟨s0, s1⟩, hx, he, ho⟩ := h.1
    have e : ∀ a, a ≠ 13 → a ≠ 14 → ∀ j, mm_I N a j = mm_I M a j := fun a z1 z2 j => zf_i g.1 (by unfold zW_A; omega) j
    have hDp : ∀ y, y < 8 → zy_r M y ≠ 0 → 64 ≤ zy_r M y := fun y hy z => (hD.2.1 y hy z).1
    have n2' : zy_p N := by unfold zy_p at n2 ⊢; simp only [zf_k g.1, zf_R g.1]; exact n2
    refine ⟨by rw [g.1.1]; exact h63, ⟨n1.keep g.1, n2', n3.keep g.1, n4.keep g.1⟩, hD.keepX h63 (zu_F g.1), ?_, ⟨?_, ?_⟩, ⟨(e 9 (by omega) (by omega) 1).trans hx.1, hx.2.1, fun i hi => ⟨(e 10 (by omega) (by omega) i).trans (hx.2.2 i hi).1, (hx.2.2 i hi).2⟩⟩, ⟨(e 9 (by omega) (by omega) 2).trans he.1, (e 9 (by omega) (by omega) 3).trans he.2⟩, g.2.1, lb, g.2.2⟩
    · exact hU.keepX hD h63 (zu_F g.1) (fun a z y => by unfold zW_A at y; omega)
    · exact s0.keepX (by omega) hD h63 (zu_F g.1) (fun a z y => by unfold zW_A at y; omega)
    · exact s1.keepX (by omega) hD h63 (zu_F g.1) (fun a z y => by unfold zW_A at y; omega)
  show zy_O _ M (zr_c _ (0, nI (zW_block (zy_P s) b').length)) (zy_out s (zW_block (zy_P s) b'))
  suffices goal : zh_H (lf_D_writeBlock_21 (fun (M3 : mm_T) => (gf_R M3 1 10 3).bind fun x10 => (gf_R M3 1 10 0).bind fun x11 => (ff_W_writeExit x10 x11 (nI b') M3).bind fun M4 => (gf_R M4 1 10 3).bind fun x12 => (gf_I M4 x12 9 1).bind fun x13 => some (.inl x13, M4)) 1 (nI b') fu_L (nI (zp_st (zy_P s) b')) (mm_sI M 13 1 0)) (fun y => ∃ N, y = (.inl (nI (zW_block (zy_P s) b').length), N) ∧ zW_c M N (zW_block (zy_P s) b')) by
    obtain ⟨y, e, N, rfl, g⟩ := goal
    rw [e]
    exact ⟨N, rfl, fin N g⟩
  refine zh_up (F := fun fu i N => lf_D_writeBlock_21 (fun (M3 : mm_T) => (gf_R M3 1 10 3).bind fun x10 => (gf_R M3 1 10 0).bind fun x11 => (ff_W_writeExit x10 x11 (nI b') M3).bind fun M4 => (gf_R M4 1 10 3).bind fun x12 => (gf_I M4 x12 9 1).bind fun x13 => some (.inl x13, M4)) 1 (nI b') fu i N) (zp_st (zy_P s) (b' + 1)) (fun i N => zp_st (zy_P s) b' ≤ i ∧ zW_c M N (zW_items (zy_P s) (zp_st (zy_P s) b') (i - zp_st (zy_P s) b'))) ?_ ?_ fu_L (zp_st (zy_P s) b') _ hms (by rw [zs_fuel]; omega) ⟨Nat.le_refl _, by rw [Nat.sub_self]; exact w0⟩
  · intro fu i N hi ⟨g0, g1⟩ k
    have q := qq g1
    show zh_H (lb_D_writeBlock_21 _ 1 (nI b') (lf_D_writeBlock_21 _ 1 (nI b') fu) (nI i) N) _
    unfold lb_D_writeBlock_21
    have il := zW_items_le hV (zp_st (zy_P s) b') (i - zp_st (zy_P s) b') (by omega)
    obtain ⟨N2, e2, w2⟩ := zW_itemC hw g1 (hV.2.2.2.2.2.2.2 i (by omega)) (by omega)
    rw [zg_R (zc_e1 q), Option.bind_some, q.1.2.1, zr_endOf q.2.1.1 q.2.1.2.1 hV hb, Option.bind_some, if_neg (nI_ge hi (by omega)), zg_R (zc_e1 q), Option.bind_some, d13 g1, Option.bind_some, zr_word q.2.1.1 q.2.1.2.1 hV (show i < zp_ni (zy_P s) by omega), Option.bind_some, e2, Option.bind_some, Option.bind_some, nI_1]
    refine k N2 ⟨by omega, ?_⟩
    rw [show i + 1 - zp_st (zy_P s) b' = (i - zp_st (zy_P s) b') + 1 by omega]
    show zW_c M N2 (zW_items (zy_P s) (zp_st (zy_P s) b') (i - zp_st (zy_P s) b') ++ zW_item ((zy_P s).2.2.2.2 (zp_st (zy_P s) b' + (i - zp_st (zy_P s) b'))))
    rw [show zp_st (zy_P s) b' + (i - zp_st (zy_P s) b') = i by omega]
    exact w2
  · intro fu N ⟨g0, g1⟩
    have q := qq g1
    have il := zW_items_le hV (zp_st (zy_P s) b') (zp_st (zy_P s) (b' + 1) - zp_st (zy_P s) b') (by omega)
    obtain ⟨N2, e2, w2⟩ := zW_exitC hw h.2.2.1.1 h.2.2.1.2.1 hV g1 hb (by omega)
    show zh_H (lb_D_writeBlock_21 _ 1 (nI b') (lf_D_writeBlock_21 _ 1 (nI b') fu) (nI (zp_st (zy_P s) (b' + 1))) N) _
    unfold lb_D_writeBlock_21
    rw [zg_R (zc_e1 q), Option.bind_some, q.1.2.1, zr_endOf q.2.1.1 q.2.1.2.1 hV hb, Option.bind_some, if_pos (nI_le (Nat.le_refl _) (by omega))]
    show zh_H ((gf_R N 1 10 3).bind _) _
    rw [zg_R (zc_e1 q), Option.bind_some, d13 g1, zg_R (zc_e1 q), Option.bind_some, q.1.2.1, e2, Option.bind_some, zg_R (zc_e1 (qq w2)), Option.bind_some, d13 w2, zg_I (zW_e13 hw w2), Option.bind_some, w2.2.1]
    exact zh_some ⟨N2, rfl, w2⟩
theorem zy_outputByte (h : zy_C M s) (i : Int32) : ff_D_outputByte 1 i M = some (zv_outputByte s i) := by
  have hw := h.1.2.1.2.2.1
  have ho := h.1.2.2.2.2.2.2.2
  have e13 : (mm_k M 13).1 = 9 := by rw [hw.1]
  unfold ff_D_outputByte zv_outputByte
  rw [zq_gd (zc_e1 h.2), zg_R (zc_e1 h.2), Option.bind_some, h.2.1.2.2.2.2.1]
  have key : ff_W_byteAt 13 i M = some (if zi_A (zy_v s).2 i then nI ((zy_v s).1 (zi_n i)) else -1) := by
    unfold ff_W_byteAt
    rw [zq_gd e13]
    by_cases c : i < 0
    · rw [if_pos c, if_neg (fun q => by have := zi_neg.mp c; have := q.1; omega)]
    · rw [if_neg c, zg_I e13, Option.bind_some, ho.1]
      have c0 : 0 ≤ i.toInt := by rw [zi_neg] at c; omega
      have h7 := ho.2.1
      by_cases d : i < nI (zy_v s).2
      · have cA : zi_A (zy_v s).2 i := ⟨c0, (zi_ltn (by omega) c).mp d⟩
        obtain ⟨hj, ej⟩ := zi_An cA
        rw [if_pos cA]
        generalize zi_n i = j at hj ej
        subst ej
        rw [if_neg (nI_ge hj (by omega)), zg_R e13, Option.bind_some, hw.2.1, zd_at hw.2.2 (show j < 704 by omega) (by omega), Option.bind_some, ho.2.2 j hj]
      · rw [if_neg (fun q : zi_A (zy_v s).2 i => d ((zi_ltn (by omega) c).mpr q.2)), if_pos (by
          rw [Int32.le_iff_toInt_le]
          rw [Int32.lt_iff_toInt_lt] at d
          omega)]
  rw [key, Option.bind_some]
end ZYB9b
