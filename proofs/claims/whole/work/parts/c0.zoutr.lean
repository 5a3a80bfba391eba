/-! ===== the reference writes ===== -/
def zW_B (a : Nat) : Prop := a = 52 ∨ a = 62
def zW_r (M0 : mm_T) (M : mm_T) (l : List Nat) : Prop := zf_F M0 M zW_B ∧ (∀ k, k ≠ 24 → mm_I M 52 k = mm_I M0 52 k) ∧ mm_I M 52 24 = nI l.length ∧ ∀ i, i < l.length → mm_I M 62 i = nI (l.getD i 0)
theorem zt_r62 {M : mm_T} (h : zt_R M) : mm_R M 52 23 = 62 ∧ mm_k M 62 = (20, 1000) := ⟨h.2.1.2.2.2.2.2.2.2.2.2, h.2.2.2.2.2.2.2.2.2.2.2⟩
section ZYC0
variable {M0 : mm_T}
theorem zW_rR (hR : zt_R M0) {M : mm_T} {l : List Nat} (h : zW_r M0 M l) : zt_R M := hR.keep h.1
theorem zW_e52 (hR : zt_R M0) {M : mm_T} {l : List Nat} (h : zW_r M0 M l) : (mm_k M 52).1 = 11 := by rw [(zW_rR hR h).1]
theorem zW_S0 {P : zp_T} (hS : zt_S M0 0 P) {M : mm_T} {l : List Nat} (h : zW_r M0 M l) : zt_S M 0 P := hS.keep h.1 (h.2.1 2 (by omega)) (fun k => zf_i h.1 (by unfold zW_B; omega) k)
theorem zW_sinkR (hR : zt_R M0) : zW_S (zW_r M0) (fun b M => ff_M_says 52 b M) := by
  intro M l b h hl
  have hRM := zW_rR hR h
  have e52 := zW_e52 hR h
  show ∃ M', ff_M_says 52 (nI b) M = some M' ∧ _
  unfold ff_M_says
  rw [zq_gd e52, zg_R e52, Option.bind_some, (zt_r62 hRM).1, zg_I e52, Option.bind_some, h.2.2.1, zw_I (zt_r62 hRM).2 (show l.length < 1000 by omega) (by omega), Option.bind_some]
  have f1 : zf_F M (mm_sI M 62 l.length (nI b)) zW_B := zf_I (Or.inr rfl) _ _
  have e52' : (mm_k (mm_sI M 62 l.length (nI b)) 52).1 = 11 := e52
  rw [zg_I e52', Option.bind_some, zp_I e52', Option.bind_some, zm_II, if_neg (by omega), h.2.2.1, nI_1]
  refine ⟨_, rfl, zf_tr h.1 (zf_tr f1 (zf_I (Or.inl rfl) _ _)), fun k hk => ?_, ?_, fun i hi => ?_⟩
  · rw [zm_II, if_neg (fun z => hk z.2), zm_II, if_neg (by omega)]
    exact h.2.1 k hk
  · rw [zm_II, if_pos ⟨rfl, rfl⟩, List.length_append]
    rfl
  · rw [List.length_append] at hi
    have hi' : i < l.length + 1 := hi
    rw [zm_II, if_neg (by omega), zm_II]
    by_cases c : i = l.length
    · rw [if_pos ⟨rfl, c⟩, c, zW_gR]
    · rw [if_neg (fun z => c z.2), zW_gL (by omega)]
      exact h.2.2.2 i (by omega)
theorem zW_varR (hR : zt_R M0) {M : mm_T} {l : List Nat} (h : zW_r M0 M l) {v : Nat} (hl : l.length + 2 ≤ 700) : ∃ M', ff_M_saysVariable 52 (nI v) M = some M' ∧ zW_r M0 M' (l ++ zW_var v) := by
  unfold ff_M_saysVariable
  rw [zq_gd (zW_e52 hR h)]
  exact zW_Svar (zW_sinkR hR) h hl
theorem zW_textR (hR : zt_R M0) {M : mm_T} {l : List Nat} (h : zW_r M0 M l) {i : Nat} (hi : i < 31) (hl : l.length + (zW_t i).length ≤ 700) : ∃ M', ff_M_saysWord 52 (st_B + i) M = some M' ∧ zW_r M0 M' (l ++ zW_t i) := by
  unfold ff_M_saysWord
  rw [zq_gd (zW_e52 hR h)]
  exact zW_Stext (zW_sinkR hR) h hi hl (F := fun fu q N => lf_M_saysWord_2 52 (st_B + i) fu q N) (fun fu q N => rfl)
theorem zW_numR (hR : zt_R M0) {M : mm_T} {l : List Nat} (h : zW_r M0 M l) {n : Nat} (hn : n < 1000) (hl : l.length + 4 ≤ 700) : ∃ M', ff_M_saysNumber 52 (nI n) M = some M' ∧ zW_r M0 M' (l ++ zW_num n) := by
  unfold ff_M_saysNumber
  rw [zq_gd (zW_e52 hR h)]
  refine zW_Snum (zW_sinkR hR) h hn hl (c100 := nI n ≤ (99 : Int32)) (c10 := nI n ≤ (9 : Int32)) ?_ ?_
  · rw [show (99 : Int32) = nI 99 from rfl, nI_leI (by omega) (by omega)]; omega
  · rw [show (9 : Int32) = nI 9 from rfl, nI_leI (by omega) (by omega)]; omega
theorem zW_byteR (hR : zt_R M0) {M : mm_T} {l : List Nat} (h : zW_r M0 M l) (hl : l.length < 700) : ∃ M', ((ff_M_says 52 (59 : Int32) M).bind fun M2 => some M2) = some M' ∧ zW_r M0 M' (l ++ [59]) := by
  obtain ⟨M', e, w⟩ := zW_sinkR hR M l 59 h hl
  have e' : ff_M_says 52 59 M = some M' := e
  rw [e', Option.bind_some]
  exact ⟨M', rfl, w⟩
theorem zW_itemR {P : zp_T} (hS : zt_S M0 0 P) {M : mm_T} {l : List Nat} (h : zW_r M0 M l) {i : Nat} (hi : i < zp_ni P) (hl : l.length + 17 ≤ 700) : ∃ M', ff_M_saysItem 52 (nI i) M = some M' ∧ zW_r M0 M' (l ++ zW_item (P.2.2.2.2 i)) := by
  have hR := hS.1
  have hV := hS.2.2.2.2
  have hq := hV.2.2.2.2.2.2.2 i hi
  have t2 : (zW_t 2).length = 3 := by decide +kernel
  have t3 : (zW_t 3).length = 4 := by decide +kernel
  have t4 : (zW_t 4).length = 4 := by decide +kernel
  have t5 : (zW_t 5).length = 4 := by decide +kernel
  have vl : ∀ v, (zW_var v).length = 2 := fun _ => rfl
  have hn := zW_num_le (zp_l P i)
  have hk3 : zp_k P i ≤ 3 := hq.1
  have hl3 : zp_l P i < 1000 := hq.2.2.1
  unfold ff_M_saysItem
  rw [zq_gd (zW_e52 hR h), zt_k (zW_S0 hS h) hi, Option.bind_some]
  simp only [zq_jp]
  by_cases c0 : zp_k P i = 0
  · have ex : zW_item (P.2.2.2.2 i) = zW_t 2 ++ zW_var (zp_t P i) ++ zW_num (zp_l P i) ++ [59] := by unfold zW_item; rw [if_pos (show (P.2.2.2.2 i).1 = 0 from c0)]; rfl
    rw [if_pos (by rw [c0]; rfl), ex]
    obtain ⟨M1, e1, w1⟩ := zW_textR hR h (i := 2) (by omega) (by omega)
    have l1 : (l ++ zW_t 2).length = l.length + 3 := by rw [List.length_append, t2]
    obtain ⟨M2, e2, w2⟩ := zW_varR hR w1 (v := zp_t P i) (by omega)
    have l2 : (l ++ zW_t 2 ++ zW_var (zp_t P i)).length = l.length + 5 := by rw [List.length_append, l1, vl]
    obtain ⟨M3, e3, w3⟩ := zW_numR hR w2 (n := zp_l P i) hl3 (by omega)
    obtain ⟨M4, e4, w4⟩ := zW_byteR hR w3 (by rw [List.length_append, l2]; omega)
    rw [e1, Option.bind_some, zt_t (zW_S0 hS w1) hi, Option.bind_some, e2, Option.bind_some, zt_l (zW_S0 hS w2) hi, Option.bind_some, e3, Option.bind_some]
    refine ⟨M4, e4, ?_⟩
    simp only [List.append_assoc] at w4 ⊢
    exact w4
  · have n0 : ¬ (P.2.2.2.2 i).1 = 0 := c0
    rw [if_neg (nI_ne0 (by omega) (by omega))]
    by_cases c1 : zp_k P i = 1
    · have ex : zW_item (P.2.2.2.2 i) = zW_t 3 ++ zW_var (zp_t P i) ++ zW_var (zp_l P i) ++ [59] := by unfold zW_item; rw [if_neg n0, if_pos (show (P.2.2.2.2 i).1 = 1 from c1)]; rfl
      rw [if_pos (by rw [c1]; rfl), ex]
      obtain ⟨M1, e1, w1⟩ := zW_textR hR h (i := 3) (by omega) (by omega)
      have l1 : (l ++ zW_t 3).length = l.length + 4 := by rw [List.length_append, t3]
      obtain ⟨M2, e2, w2⟩ := zW_varR hR w1 (v := zp_t P i) (by omega)
      have l2 : (l ++ zW_t 3 ++ zW_var (zp_t P i)).length = l.length + 6 := by rw [List.length_append, l1, vl]
      obtain ⟨M3, e3, w3⟩ := zW_varR hR w2 (v := zp_l P i) (by omega)
      obtain ⟨M4, e4, w4⟩ := zW_byteR hR w3 (by rw [List.length_append, l2, vl]; omega)
      rw [e1, Option.bind_some, zt_t (zW_S0 hS w1) hi, Option.bind_some, e2, Option.bind_some, zt_l (zW_S0 hS w2) hi, Option.bind_some, e3, Option.bind_some]
      refine ⟨M4, e4, ?_⟩
      simp only [List.append_assoc] at w4 ⊢
      exact w4
    · have n1 : ¬ (P.2.2.2.2 i).1 = 1 := c1
      rw [if_neg (show ¬ nI (zp_k P i) = (1 : Int32) from fun z => c1 ((nI_eq (b := 1) (by omega) (by omega)).mp z))]
      by_cases c2 : zp_k P i = 2
      · have ex : zW_item (P.2.2.2.2 i) = zW_t 4 ++ zW_var (zp_t P i) ++ zW_var (zp_l P i) ++ zW_t (25 + zp_o P i) ++ zW_var (zp_r P i) ++ [59] := by unfold zW_item; rw [if_neg n0, if_neg n1, if_pos (show (P.2.2.2.2 i).1 = 2 from c2)]; rfl
        have ho : zp_o P i ≤ 2 := hq.2.2.2.2.1
        rw [if_pos (by rw [c2]; rfl), ex]
        have h6 : ∀ o, o ≤ 2 → (zW_t (25 + o)).length ≤ 6 := by decide +kernel
        have ho6 := h6 _ ho
        obtain ⟨M1, e1, w1⟩ := zW_textR hR h (i := 4) (by omega) (by omega)
        have l1 : (l ++ zW_t 4).length = l.length + 4 := by rw [List.length_append, t4]
        obtain ⟨M2, e2, w2⟩ := zW_varR hR w1 (v := zp_t P i) (by omega)
        have l2 : (l ++ zW_t 4 ++ zW_var (zp_t P i)).length = l.length + 6 := by rw [List.length_append, l1, vl]
        obtain ⟨M3, e3, w3⟩ := zW_varR hR w2 (v := zp_l P i) (by omega)
        have l3 : (l ++ zW_t 4 ++ zW_var (zp_t P i) ++ zW_var (zp_l P i)).length = l.length + 8 := by rw [List.length_append, l2, vl]
        obtain ⟨M4, e4, w4⟩ := zW_textR hR w3 (i := 25 + zp_o P i) (by omega) (by omega)
        obtain ⟨M5, e5, w5⟩ := zW_varR hR w4 (v := zp_r P i) (by rw [List.length_append, l3]; omega)
        obtain ⟨M6, e6, w6⟩ := zW_byteR hR w5 (by rw [List.length_append, List.length_append, l3, vl]; omega)
        rw [e1, Option.bind_some, zt_t (zW_S0 hS w1) hi, Option.bind_some, e2, Option.bind_some, zt_l (zW_S0 hS w2) hi, Option.bind_some, e3, Option.bind_some, zt_o (zW_S0 hS w3) hi, Option.bind_some]
        have tail : ∃ M', ((ff_M_saysWord 52 (st_B + (25 + zp_o P i)) M3).bind fun M12 => (ff_M_it 52 (nI i) (4 : Int32) M12).bind fun x10 => (ff_M_saysVariable 52 x10 M12).bind fun M13 => (ff_M_says 52 (59 : Int32) M13).bind fun M2 => some M2) = some M' ∧ zW_r M0 M' (l ++ (zW_t 4 ++ zW_var (zp_t P i) ++ zW_var (zp_l P i) ++ zW_t (25 + zp_o P i) ++ zW_var (zp_r P i) ++ [59])) := by
          rw [e4, Option.bind_some, zt_r (zW_S0 hS w4) hi, Option.bind_some, e5, Option.bind_some]
          refine ⟨M6, e6, ?_⟩
          simp only [List.append_assoc] at w6 ⊢
          exact w6
        rcases (show zp_o P i = 0 ∨ zp_o P i = 1 ∨ zp_o P i = 2 by omega) with z | z | z
        · rw [z] at tail ⊢
          rw [if_pos nI_0]
          exact tail
        · rw [z] at tail ⊢
          rw [if_neg (show ¬ nI 1 = 0 by decide), Option.bind_some, if_pos (show nI 1 = (1 : Int32) from rfl)]
          exact tail
        · rw [z] at tail ⊢
          rw [if_neg (show ¬ nI 2 = 0 by decide), Option.bind_some, if_neg (show ¬ nI 2 = (1 : Int32) by decide)]
          exact tail
      · have n2 : ¬ (P.2.2.2.2 i).1 = 2 := c2
        have ex : zW_item (P.2.2.2.2 i) = zW_t 5 ++ zW_var (zp_l P i) ++ [59] := by unfold zW_item; rw [if_neg n0, if_neg n1, if_neg n2]; rfl
        rw [if_neg (show ¬ nI (zp_k P i) = (2 : Int32) from fun z => c2 ((nI_eq (b := 2) (by omega) (by omega)).mp z)), ex]
        obtain ⟨M1, e1, w1⟩ := zW_textR hR h (i := 5) (by omega) (by omega)
        have l1 : (l ++ zW_t 5).length = l.length + 4 := by rw [List.length_append, t5]
        obtain ⟨M2, e2, w2⟩ := zW_varR hR w1 (v := zp_l P i) (by omega)
        obtain ⟨M3, e3, w3⟩ := zW_byteR hR w2 (by rw [List.length_append, l1, vl]; omega)
        rw [e1, Option.bind_some, zt_l (zW_S0 hS w1) hi, Option.bind_some, e2, Option.bind_some]
        refine ⟨M3, e3, ?_⟩
        simp only [List.append_assoc] at w3 ⊢
        exact w3
/-- the numbers of the ways -/
theorem zW_waysR {P : zp_T} (hS : zt_S M0 0 P) {b : Nat} (hb : b < zp_nb P) {M : mm_T} {l : List Nat} (h : zW_r M0 M l) (hl : l.length + 9 ≤ 700) : ∃ M', lf_M_saysExit_62 (fun (M5 : mm_T) => (ff_M_says 52 (59 : Int32) M5).bind fun M6 => some M6) 52 (nI b) fu_L (0 : Int32) M = some M' ∧ zW_r M0 M' (l ++ (if zp_w P b = 0 then [] else if zp_w P b = 1 then zW_num (zp_f P b) else zW_num (zp_f P b) ++ zW_num (zp_s P b)) ++ [59]) := by
  have hR := hS.1
  have hV := hS.2.2.2.2
  have hnb := hV.2.1
  have hw2 := zp_w_le hV hb
  have hnf := zW_num_le (zp_f P b)
  have hns := zW_num_le (zp_s P b)
  have stop : ∀ fu N l', zW_r M0 N l' → l'.length < 700 → ∃ M', lf_M_saysExit_62 (fun (M5 : mm_T) => (ff_M_says 52 (59 : Int32) M5).bind fun M6 => some M6) 52 (nI b) (fu + 1) (nI (zp_w P b)) N = some M' ∧ zW_r M0 M' (l' ++ [59]) := by
    intro fu N l' g hl'
    show ∃ M', lb_M_saysExit_62 _ 52 (nI b) (lf_M_saysExit_62 _ 52 (nI b) fu) (nI (zp_w P b)) N = some M' ∧ _
    unfold lb_M_saysExit_62
    rw [zt_ways (zW_S0 hS g) hb, Option.bind_some, if_pos (nI_le (Nat.le_refl _) (by omega))]
    exact zW_byteR hR g hl'
  have step : ∀ fu k N l', zW_r M0 N l' → l'.length + 4 ≤ 700 → k < zp_w P b → ∃ N', lf_M_saysExit_62 (fun (M5 : mm_T) => (ff_M_says 52 (59 : Int32) M5).bind fun M6 => some M6) 52 (nI b) (fu + 1) (nI k) N = lf_M_saysExit_62 (fun (M5 : mm_T) => (ff_M_says 52 (59 : Int32) M5).bind fun M6 => some M6) 52 (nI b) fu (nI (k + 1)) N' ∧ zW_r M0 N' (l' ++ zW_num (zp_way P b k)) := by
    intro fu k N l' g hl' hk
    have hy := zp_way_lt hV hb hk
    obtain ⟨N', e, w⟩ := zW_numR hR g (n := zp_way P b k) (by omega) hl'
    refine ⟨N', ?_, w⟩
    show lb_M_saysExit_62 _ 52 (nI b) (lf_M_saysExit_62 _ 52 (nI b) fu) (nI k) N = _
    unfold lb_M_saysExit_62
    rw [zt_ways (zW_S0 hS g) hb, Option.bind_some, if_neg (nI_ge hk (by omega)), zt_way (zW_S0 hS g) hb hk, Option.bind_some, e, Option.bind_some, Option.bind_some, nI_1]
  have ef : zp_way P b 0 = zp_f P b := if_pos rfl
  have es : zp_way P b 1 = zp_s P b := if_neg (by omega)
  rw [zs_fuel, show (0 : Int32) = nI 0 from rfl]
  by_cases c0 : zp_w P b = 0
  · rw [if_pos c0, List.append_nil]
    have := stop 999999 M l h (by omega)
    rw [c0] at this
    exact this
  · rw [if_neg c0]
    obtain ⟨N1, e1, w1⟩ := step 999999 0 M l h (by omega) (by omega)
    rw [ef] at w1
    by_cases c1 : zp_w P b = 1
    · rw [if_pos c1, e1]
      have := stop 999998 N1 _ w1 (by rw [List.length_append]; omega)
      rw [c1] at this
      exact this
    · rw [if_neg c1, e1]
      obtain ⟨N2, e2, w2⟩ := step 999998 1 N1 _ w1 (by rw [List.length_append]; omega) (by omega)
      rw [es] at w2
      have := stop 999997 N2 _ w2 (by rw [List.length_append, List.length_append]; omega)
      rw [show zp_w P b = 2 by omega] at this
      rw [e2, ← List.append_assoc l]
      exact this
theorem zW_exitR {P : zp_T} (hS : zt_S M0 0 P) {M : mm_T} {l : List Nat} (h : zW_r M0 M l) {b : Nat} (hb : b < zp_nb P) (hl : l.length + 17 ≤ 700) : ∃ M', ff_M_saysExit 52 (nI b) M = some M' ∧ zW_r M0 M' (l ++ zW_exit (P.2.2.2.1 b)) := by
  have hR := hS.1
  have hV := hS.2.2.2.2
  have hw2 := zp_w_le hV hb
  have t9 : (zW_t 9).length = 4 := by decide +kernel
  have t10 : (zW_t 10).length = 4 := by decide +kernel
  have t11 : (zW_t 11).length = 6 := by decide +kernel
  have vl : ∀ v, (zW_var v).length = 2 := fun _ => rfl
  unfold ff_M_saysExit
  rw [zq_gd (zW_e52 hR h), zt_exit (zW_S0 hS h) hb, Option.bind_some]
  simp only [zq_jp]
  by_cases c0 : zp_w P b = 0
  · have ex : zW_exit (P.2.2.2.1 b) = zW_t 9 ++ [59] := by unfold zW_exit; rw [if_pos (show (P.2.2.2.1 b).1 = 0 from c0)]
    obtain ⟨M1, e1, w1⟩ := zW_textR hR h (i := 9) (by omega) (by omega)
    obtain ⟨M2, e2, w2⟩ := zW_waysR hS hb w1 (by rw [List.length_append, t9]; omega)
    rw [if_pos c0, List.append_nil, List.append_assoc] at w2
    rw [if_pos (by rw [c0]; rfl), e1, Option.bind_some, zt_exit (zW_S0 hS w1) hb, Option.bind_some, if_neg (by rw [c0]; decide), Option.bind_some, if_neg (by rw [c0]; decide), e2, ex]
    exact ⟨M2, rfl, w2⟩
  · rw [if_neg (nI_ne0 (by omega) (by omega)), zt_exit (zW_S0 hS h) hb, Option.bind_some]
    by_cases c1 : zp_w P b = 1
    · have ex : zW_exit (P.2.2.2.1 b) = zW_t 10 ++ zW_num (zp_f P b) ++ [59] := by unfold zW_exit; rw [if_neg (show ¬ (P.2.2.2.1 b).1 = 0 from c0), if_pos (show (P.2.2.2.1 b).1 = 1 from c1)]; rfl
      obtain ⟨M1, e1, w1⟩ := zW_textR hR h (i := 10) (by omega) (by omega)
      obtain ⟨M2, e2, w2⟩ := zW_waysR hS hb w1 (by rw [List.length_append, t10]; omega)
      rw [if_neg c0, if_pos c1] at w2
      simp only [List.append_assoc] at w2
      rw [if_pos (by rw [c1]; rfl), e1, Option.bind_some, zt_exit (zW_S0 hS w1) hb, Option.bind_some, if_neg (by rw [c1]; decide), e2, ex]
      refine ⟨M2, rfl, ?_⟩
      simp only [List.append_assoc]
      exact w2
    · have c2 : zp_w P b = 2 := by omega
      have ex : zW_exit (P.2.2.2.1 b) = zW_t 11 ++ zW_var (zp_x P b) ++ zW_num (zp_f P b) ++ zW_num (zp_s P b) ++ [59] := by unfold zW_exit; rw [if_neg (show ¬ (P.2.2.2.1 b).1 = 0 from c0), if_neg (show ¬ (P.2.2.2.1 b).1 = 1 from c1)]; rfl
      obtain ⟨M1, e1, w1⟩ := zW_textR hR h (i := 11) (by omega) (by omega)
      obtain ⟨M2, e2, w2⟩ := zW_varR hR w1 (v := zp_x P b) (by rw [List.length_append, t11]; omega)
      obtain ⟨M3, e3, w3⟩ := zW_waysR hS hb w2 (by rw [List.length_append, List.length_append, t11, vl]; omega)
      rw [if_neg c0, if_neg c1] at w3
      simp only [List.append_assoc] at w3
      rw [if_neg (by rw [c2]; decide), Option.bind_some, if_pos (by rw [c2]; rfl), e1, Option.bind_some, zt_x (zW_S0 hS w1) hb c2, Option.bind_some, e2, Option.bind_some, e3, ex]
      refine ⟨M3, rfl, ?_⟩
      simp only [List.append_assoc]
      exact w3
end ZYC0
section ZYC0b
variable {M : mm_T} {s : zy_T}
theorem zy_writeBlockM (h : zy_M M s) (b : Int32) : zy_Om (ff_M_writeBlock 52 b M) M (zv_writeBlock s b) := by
  unfold ff_M_writeBlock zv_writeBlock
  rw [zq_gd (zt_e52 h.2.1)]
  refine zy_opB h (fun c1 M1 h1 t1 n1 => ?_)
  obtain ⟨hb, eb⟩ := zi_An c1
  generalize zi_n b = b' at hb eb
  subst eb
  have hS := h1.2.1
  have hR := hS.1
  have hV := hS.2.2.2.2
  have hni := hV.2.2.1
  have hse := zp_st_le hV (b := b' + 1) (by omega)
  have hms := hV.2.2.2.2.1 b' hb
  have f0 : zf_F M1 (mm_sI M1 52 24 0) zW_B := zf_I (Or.inl rfl) _ _
  have w0 : zW_r M1 (mm_sI M1 52 24 0) [] := ⟨f0, fun k hk => by rw [zm_II, if_neg (fun z => hk z.2)], by rw [zm_II, if_pos ⟨rfl, rfl⟩]; rfl, fun i hi => absurd hi (Nat.not_lt_zero _)⟩
  rw [zp_I (zt_e52 hS), Option.bind_some, zt_firstOf (zW_S0 hS w0) (by omega), Option.bind_some]
  suffices goal : zh_H (lf_M_writeBlock_21 (fun (M4 : mm_T) => (ff_M_saysExit 52 (nI b') M4).bind fun M5 => (gf_I M5 52 11 24).bind fun x5 => some (x5, M5)) 52 (nI b') fu_L (nI (zp_st (zy_P s) b')) (mm_sI M1 52 24 0)) (fun y => ∃ N, y = (nI (zW_block (zy_P s) b').length, N) ∧ zW_r M1 N (zW_block (zy_P s) b')) by
    obtain ⟨y, e, N, rfl, g⟩ := goal
    rw [e]
    have lb : (zW_block (zy_P s) b').length ≤ 700 := by
      have a1 := zW_items_le hV (zp_st (zy_P s) b') (zp_st (zy_P s) (b' + 1) - zp_st (zy_P s) b') (by omega)
      have a2 := zW_exit_le ((zy_P s).2.2.2.1 b')
      unfold zW_block
      rw [List.length_append]
      omega
    have i : ∀ a, a ≠ 52 → a ≠ 62 → ∀ k, mm_I N a k = mm_I M1 a k := fun a z1 z2 k => zf_i g.1 (by unfold zW_B; omega) k
    obtain ⟨h63, _, hK, hN, hx, he, ho⟩ := h1
    refine ⟨_, N, rfl, zu_wk (zu_F (zf_mono g.1 (fun a z => by unfold zW_B at z; unfold zy_Ar; omega))) (by omega) (by omega) (fun a z => z), ⟨by rw [g.1.1]; exact h63, zW_S0 hS g, ⟨hK.1, (g.2.1 3 (by omega)).trans hK.2.1, fun k hk => ⟨(hK.2.2 k hk).1.keep (fun k => i 53 (by omega) (by omega) k), (hK.2.2 k hk).2⟩⟩, ⟨(i 54 (by omega) (by omega) 0).trans hN.1, (i 54 (by omega) (by omega) 1).trans hN.2.1, fun Q e => ⟨(hN.2.2.1 Q e).1.keep (fun k => i 53 (by omega) (by omega) k), (hN.2.2.1 Q e).2⟩, fun Q e => ⟨(hN.2.2.2 Q e).1.keep (fun k => i 53 (by omega) (by omega) k), (hN.2.2.2 Q e).2⟩⟩, ⟨(g.2.1 15 (by omega)).trans hx.1, hx.2.1, fun y hy => ⟨(i 60 (by omega) (by omega) y).trans (hx.2.2 y hy).1, (hx.2.2 y hy).2⟩⟩, ⟨(g.2.1 16 (by omega)).trans he.1, (g.2.1 17 (by omega)).trans he.2⟩, g.2.2.1, lb, g.2.2.2⟩, ?_, fun _ => rfl⟩
    show mm_I N 52 4 = nI 0
    rw [g.2.1 4 (by omega), t1]
    rfl
  refine zh_up (F := fun fu i N => lf_M_writeBlock_21 (fun (M4 : mm_T) => (ff_M_saysExit 52 (nI b') M4).bind fun M5 => (gf_I M5 52 11 24).bind fun x5 => some (x5, M5)) 52 (nI b') fu i N) (zp_st (zy_P s) (b' + 1)) (fun i N => zp_st (zy_P s) b' ≤ i ∧ zW_r M1 N (zW_items (zy_P s) (zp_st (zy_P s) b') (i - zp_st (zy_P s) b'))) ?_ ?_ fu_L (zp_st (zy_P s) b') _ hms (by rw [zs_fuel]; omega) ⟨Nat.le_refl _, by rw [Nat.sub_self]; exact w0⟩
  · intro fu i N hi ⟨g0, g1⟩ k
    show zh_H (lb_M_writeBlock_21 _ 52 (nI b') (lf_M_writeBlock_21 _ 52 (nI b') fu) (nI i) N) _
    unfold lb_M_writeBlock_21
    have il := zW_items_le hV (zp_st (zy_P s) b') (i - zp_st (zy_P s) b') (by omega)
    obtain ⟨N2, e2, w2⟩ := zW_itemR hS g1 (show i < zp_ni (zy_P s) by omega) (by omega)
    rw [zt_endOf (zW_S0 hS g1) hb, Option.bind_some, if_neg (nI_ge hi (by omega)), e2, Option.bind_some, Option.bind_some, nI_1]
    refine k N2 ⟨by omega, ?_⟩
    rw [show i + 1 - zp_st (zy_P s) b' = (i - zp_st (zy_P s) b') + 1 by omega]
    show zW_r M1 N2 (zW_items (zy_P s) (zp_st (zy_P s) b') (i - zp_st (zy_P s) b') ++ zW_item ((zy_P s).2.2.2.2 (zp_st (zy_P s) b' + (i - zp_st (zy_P s) b'))))
    rw [show zp_st (zy_P s) b' + (i - zp_st (zy_P s) b') = i by omega]
    exact w2
  · intro fu N ⟨g0, g1⟩
    have il := zW_items_le hV (zp_st (zy_P s) b') (zp_st (zy_P s) (b' + 1) - zp_st (zy_P s) b') (by omega)
    obtain ⟨N2, e2, w2⟩ := zW_exitR hS g1 hb (by omega)
    show zh_H (lb_M_writeBlock_21 _ 52 (nI b') (lf_M_writeBlock_21 _ 52 (nI b') fu) (nI (zp_st (zy_P s) (b' + 1))) N) _
    unfold lb_M_writeBlock_21
    rw [zt_endOf (zW_S0 hS g1) hb, Option.bind_some, if_pos (nI_le (Nat.le_refl _) (by omega))]
    show zh_H ((ff_M_saysExit 52 (nI b') N).bind _) _
    rw [e2, Option.bind_some, zg_I (zW_e52 hR w2), Option.bind_some, w2.2.2.1]
    exact zh_some ⟨N2, rfl, w2⟩
theorem zy_outputByteM (h : zy_M M s) (i : Int32) : zy_Om (ff_M_outputByte 52 i M) M ((0, zv_outputByte s i), s) := by
  have h0 := h.thr 0
  have t0 : mm_I (mm_sI M 52 4 0) 52 4 = nI 0 := by rw [zm_II, if_pos ⟨rfl, rfl⟩]; rfl
  unfold ff_M_outputByte zv_outputByte
  rw [zq_gd (zt_e52 h.2.1), zp_I (zt_e52 h.2.1), Option.bind_some]
  refine zy_OmI (zy_f4 M 0) (fun a z => by unfold zy_Ar; omega) ?_
  generalize mm_sI M 52 4 0 = M0 at h0 t0 ⊢
  have ho := h0.2.2.2.2.2.2
  have h7 := ho.2.1
  have hR := h0.2.1.1
  have done : ∀ v, zy_Om (some (v, M0)) M0 ((0, v), s) := fun v => ⟨v, M0, rfl, zu_wk (zu_rfl M0 zy_Ar) (by omega) (by omega) (fun a z => z), h0, t0, fun _ => rfl⟩
  rw [zg_I (zt_e52 h0.2.1), Option.bind_some, ho.1, zt_inA (by omega), Option.bind_some]
  by_cases c : zi_A (zy_v s).2 i
  · obtain ⟨hj, ej⟩ := zi_An c
    rw [if_pos c, decide_eq_true c, if_neg (by decide)]
    generalize zi_n i = j at hj ej
    subst ej
    rw [zg_R (zt_e52 h0.2.1), Option.bind_some, (zt_r62 hR).1, za_I (zt_r62 hR).2 (show j < 1000 by omega) (by omega), Option.bind_some, ho.2.2 j hj]
    exact done _
  · rw [if_neg c, decide_eq_false c, if_pos (by decide)]
    exact done _
end ZYC0b
