/-! ===== the reference: an instruction is put in or taken out ===== -/
/-- slot o alone was written -/
def zt_E (o : Nat) (M M' : mm_T) : Prop := zf_F M M' (fun a => a = 53) ∧ ∀ k, (k < 262 * o ∨ 262 * o + 262 ≤ k) → mm_I M' 53 k = mm_I M 53 k
theorem zt_E_rfl (o : Nat) (M : mm_T) : zt_E o M M := ⟨zf_rfl _ _, fun _ _ => rfl⟩
theorem zt_E_tr {o : Nat} {M M1 M2 : mm_T} (h : zt_E o M M1) (h2 : zt_E o M1 M2) : zt_E o M M2 := ⟨zf_tr h.1 h2.1, fun k hk => (h2.2 k hk).trans (h.2 k hk)⟩
theorem zt_E_1 {o : Nat} (M : mm_T) {k : Nat} (v : Int32) (h : k < 262) : zt_E o M (mm_sI M 53 (262 * o + k) v) := ⟨zf_I1 _ _ _ _, fun j hj => by rw [zm_II, if_neg (by omega)]⟩
section ZTX
variable {M : mm_T} {o : Nat} {P : zp_T}
theorem zt_setx (h : zt_S M o P) {b w x f s : Nat} (hb : b < zp_nb P) (hq : zp_bok (zp_nb P) (w, x, f, s)) : ∃ M', ff_M_exits 52 (nI b) (nI w) (nI x) (nI f) (nI s) M = some M' ∧ zt_E o M M' ∧ zt_S M' o (zp_setx P b (w, x, f, s)) := by
  have hV := h.2.2.2.2
  have hnb := hV.2.1
  have hni := hV.2.2.1
  obtain ⟨M', e, g1, g2, c1, c2, c3, c4⟩ := zt_exits h.w (w := w) (x := x) (f := f) (s := s) (show b < 12 by omega)
  have w' := h.w.keep g1
  obtain ⟨h1, h2, h3, h4⟩ := h.2.2.2.1
  refine ⟨M', e, ⟨g1, fun k hk => g2 k (by omega)⟩, w'.1, w'.2.1, w'.2.2, ⟨?_, ?_, fun c hc => ?_, fun i hi => ?_⟩, zp_setx_V hV hq⟩
  · rw [g2 _ (by omega)]; exact h1
  · rw [g2 _ (by omega)]; exact h2
  · have hc' : c < zp_nb P := hc
    by_cases e0 : c = b
    · subst e0
      have eq : (if c = c then (w, x, f, s) else P.2.2.2.1 c) = (w, x, f, s) := if_pos rfl
      refine ⟨?_, ?_, fun _ => ?_, fun _ => ?_, fun _ => ?_⟩
      · rw [g2 _ (by omega)]; exact (h3 c hc').1
      · show _ = nI (if c = c then (w, x, f, s) else P.2.2.2.1 c).1
        rw [eq]; exact c1
      · show _ = nI (if c = c then (w, x, f, s) else P.2.2.2.1 c).2.1
        rw [eq]; exact c2
      · show _ = nI (if c = c then (w, x, f, s) else P.2.2.2.1 c).2.2.1
        rw [eq]; exact c3
      · show _ = nI (if c = c then (w, x, f, s) else P.2.2.2.1 c).2.2.2
        rw [eq]; exact c4
    · have eq : (if c = b then (w, x, f, s) else P.2.2.2.1 c) = P.2.2.2.1 c := if_neg e0
      have h3' := h3 c hc'
      unfold zp_w zp_x zp_f zp_s at h3' ⊢
      have eq2 : (zp_setx P b (w, x, f, s)).2.2.2.1 c = P.2.2.2.1 c := eq
      rw [eq2, g2 _ (by omega), g2 _ (by omega), g2 _ (by omega), g2 _ (by omega), g2 _ (by omega)]
      exact h3'
  · have hi' : i < zp_ni P := hi
    rw [g2 _ (by omega), g2 _ (by omega), g2 _ (by omega), g2 _ (by omega), g2 _ (by omega)]
    exact h4 i hi'
theorem zt_seti (h : zt_S M o P) {i k t l c r : Nat} (hi : i < zp_ni P) (hq : zp_iok (k, t, l, c, r)) : ∃ M', ff_M_writes 52 (nI i) (nI k) (nI t) (nI l) (nI c) (nI r) M = some M' ∧ zt_E o M M' ∧ zt_S M' o (zp_seti P i (k, t, l, c, r)) := by
  have hV := h.2.2.2.2
  have hnb := hV.2.1
  have hni := hV.2.2.1
  obtain ⟨M', e, g1, g2, c0, c1, c2, c3, c4⟩ := zt_writes h.w (k := k) (t := t) (l := l) (c := c) (r := r) (show i < 40 by omega)
  have w' := h.w.keep g1
  obtain ⟨h1, h2, h3, h4⟩ := h.2.2.2.1
  refine ⟨M', e, ⟨g1, fun x hx => g2 x (by omega)⟩, w'.1, w'.2.1, w'.2.2, ⟨?_, ?_, fun b hb => ?_, fun j hj => ?_⟩, zp_seti_V hV hq⟩
  · rw [g2 _ (by omega)]; exact h1
  · rw [g2 _ (by omega)]; exact h2
  · have hb' : b < zp_nb P := hb
    rw [g2 _ (by omega), g2 _ (by omega), g2 _ (by omega), g2 _ (by omega), g2 _ (by omega)]
    exact h3 b hb'
  · have hj' : j < zp_ni P := hj
    have eq2 : (zp_seti P i (k, t, l, c, r)).2.2.2.2 j = if j = i then (k, t, l, c, r) else P.2.2.2.2 j := rfl
    unfold zp_k zp_t zp_l zp_o zp_r
    rw [eq2]
    by_cases e0 : j = i
    · rw [if_pos e0, e0]
      exact ⟨c0, c1, c2, c3, c4⟩
    · rw [if_neg e0, g2 _ (by omega), g2 _ (by omega), g2 _ (by omega), g2 _ (by omega), g2 _ (by omega)]
      exact h4 j hj'
/-- an inner loop with what comes behind it -/
theorem zt_item5k (h : zt_W M o) {i j : Nat} (hi : i < 40) (hj : j < 40) (hij : i ≠ j) {ρ : Type} {F : Nat → Int32 → mm_T → Option ρ} (k0 : mm_T → Option ρ) (Q : ρ → Prop) (hF : ∀ fu q N, F (fu + 1) q N = if (5 : Int32) ≤ q then k0 N else ((ff_M_it 52 (nI i) q N).bind fun x5 => (ff_M_layItem 52 (nI j) q x5 N).bind fun M2 => (some (q + (1 : Int32))).bind fun x6 => F fu x6 M2)) (hk : ∀ N, zt_E o M N → (∀ x, (x < 262 * o + (62 + 5 * j) ∨ 262 * o + (62 + 5 * j + 5) ≤ x) → mm_I N 53 x = mm_I M 53 x) → (∀ f, f < 5 → mm_I N 53 (262 * o + (62 + 5 * j + f)) = mm_I M 53 (262 * o + (62 + 5 * i + f))) → zh_H (k0 N) Q) : zh_H (F fu_L 0 M) Q := by
  refine zh_up (F := fun fu q N => F fu q N) 5 (fun f N => zt_E o M N ∧ (∀ x, (x < 262 * o + (62 + 5 * j) ∨ 262 * o + (62 + 5 * j + 5) ≤ x) → mm_I N 53 x = mm_I M 53 x) ∧ ∀ g, g < f → mm_I N 53 (262 * o + (62 + 5 * j + g)) = mm_I M 53 (262 * o + (62 + 5 * i + g))) ?_ ?_ fu_L 0 M (by omega) (by rw [zs_fuel]; omega) ⟨zt_E_rfl _ _, fun _ _ => rfl, fun g hg => absurd hg (Nat.not_lt_zero _)⟩
  · intro fu f N hf ⟨g1, g2, g3⟩ k
    have wN := h.keep g1.1
    show zh_H (F (fu + 1) (nI f) N) _
    rw [hF, if_neg (show ¬ (5 : Int32) ≤ nI f from nI_ge (b := 5) hf (by omega)), zt_it0 wN.1 wN.2.1 wN.2.2 hi hf, Option.bind_some, zt_layI wN hj hf, Option.bind_some, Option.bind_some, nI_1]
    refine k _ ⟨zt_E_tr g1 (zt_E_1 N _ (by omega)), fun x hx => ?_, fun g hg => ?_⟩
    · rw [zm_II, if_neg (by omega)]; exact g2 x hx
    · rw [zm_II]
      by_cases c : g = f
      · rw [if_pos ⟨rfl, by rw [c]⟩, c, g2 _ (by omega)]
      · rw [if_neg (by omega)]; exact g3 g (by omega)
  · intro fu N ⟨g1, g2, g3⟩
    show zh_H (F (fu + 1) (nI 5) N) _
    rw [hF, if_pos (show (5 : Int32) ≤ nI 5 from nI_le (a := 5) (Nat.le_refl _) (by omega))]
    exact hk N g1 g2 g3
theorem zt_removes (h : zt_S M o P) {i : Nat} (hi : i < zp_ni P) : ∃ M', ff_M_removes 52 (nI i) M = some M' ∧ zt_E o M M' ∧ zt_S M' o (zp_rm P i) := by
  have hV := h.2.2.2.2
  have hnb := hV.2.1
  have hni := hV.2.2.1
  have hbl := zp_bk_lt hV hi
  have hlo := zp_bk_lo hV hi
  have hhi := zp_bk_hi hV hi
  have w0 := h.w
  have f1 : zt_E o M (mm_sI M 53 (262 * o + (2 + 5 * zp_bk P i + 0)) (nI (zp_st P (zp_bk P i + 1) - zp_st P (zp_bk P i) - 1))) := zt_E_1 M _ (by omega)
  have w1 := w0.keep f1.1
  have f2 : zt_E o M (mm_sI (mm_sI M 53 (262 * o + (2 + 5 * zp_bk P i + 0)) (nI (zp_st P (zp_bk P i + 1) - zp_st P (zp_bk P i) - 1))) 53 (262 * o + 1) (nI (zp_ni P - 1))) := zt_E_tr f1 (zt_E_1 _ _ (by omega))
  have w2 := w0.keep f2.1
  have el : ff_M_layBlock 52 (nI (zp_bk P i)) 0 (nI (zp_st P (zp_bk P i + 1) - zp_st P (zp_bk P i) - 1)) M = some (mm_sI M 53 (262 * o + (2 + 5 * zp_bk P i + 0)) (nI (zp_st P (zp_bk P i + 1) - zp_st P (zp_bk P i) - 1))) := zt_layB w0 (f := 0) (by omega) (by omega) _
  have eg : ∀ N, zt_W N o → ff_M_get 52 1 N = some (mm_I N 53 (262 * o + 1)) := fun N w => zt_get (w := 1) w.1 w.2.1 w.2.2 (by omega)
  have ey : ff_M_lay 52 1 (nI (zp_ni P - 1)) (mm_sI M 53 (262 * o + (2 + 5 * zp_bk P i + 0)) (nI (zp_st P (zp_bk P i + 1) - zp_st P (zp_bk P i) - 1))) = some (mm_sI (mm_sI M 53 (262 * o + (2 + 5 * zp_bk P i + 0)) (nI (zp_st P (zp_bk P i + 1) - zp_st P (zp_bk P i) - 1))) 53 (262 * o + 1) (nI (zp_ni P - 1))) := zt_lay (w := 1) w1.1 w1.2.1 w1.2.2 (by omega) _
  obtain ⟨h1, h2, h3, h4⟩ := h.2.2.2.1
  suffices goal : zh_H (ff_M_removes 52 (nI i) M) (fun M' => zt_E o M M' ∧ zt_S M' o (zp_rm P i)) from goal
  unfold ff_M_removes
  rw [zq_gd (zt_e52 h), zt_blockAt h hi, Option.bind_some, zt_len h hbl, Option.bind_some, show (1 : Int32) = nI 1 from rfl, zi_sub (by omega), el, Option.bind_some]
  have eg1 := eg _ w1
  rw [show (1 : Int32) = nI 1 from rfl] at eg1
  rw [eg1, Option.bind_some, zm_II, if_neg (by omega), h2, zi_sub (by omega)]
  rw [show (1 : Int32) = nI 1 from rfl] at ey
  rw [ey, Option.bind_some]
  have base : ∀ x, x ≠ 262 * o + (2 + 5 * zp_bk P i + 0) → x ≠ 262 * o + 1 → mm_I (mm_sI (mm_sI M 53 (262 * o + (2 + 5 * zp_bk P i + 0)) (nI (zp_st P (zp_bk P i + 1) - zp_st P (zp_bk P i) - 1))) 53 (262 * o + 1) (nI (zp_ni P - 1))) 53 x = mm_I M 53 x := fun x z1 z2 => by rw [zm_II, if_neg (fun z => z2 z.2), zm_II, if_neg (fun z => z1 z.2)]
  have bl : mm_I (mm_sI (mm_sI M 53 (262 * o + (2 + 5 * zp_bk P i + 0)) (nI (zp_st P (zp_bk P i + 1) - zp_st P (zp_bk P i) - 1))) 53 (262 * o + 1) (nI (zp_ni P - 1))) 53 (262 * o + (2 + 5 * zp_bk P i + 0)) = nI (zp_st P (zp_bk P i + 1) - zp_st P (zp_bk P i) - 1) := by rw [zm_II, if_neg (by omega), zm_II, if_pos ⟨rfl, rfl⟩]
  have bc : mm_I (mm_sI (mm_sI M 53 (262 * o + (2 + 5 * zp_bk P i + 0)) (nI (zp_st P (zp_bk P i + 1) - zp_st P (zp_bk P i) - 1))) 53 (262 * o + 1) (nI (zp_ni P - 1))) 53 (262 * o + 1) = nI (zp_ni P - 1) := by rw [zm_II, if_pos ⟨rfl, rfl⟩]
  generalize mm_sI (mm_sI M 53 (262 * o + (2 + 5 * zp_bk P i + 0)) (nI (zp_st P (zp_bk P i + 1) - zp_st P (zp_bk P i) - 1))) 53 (262 * o + 1) (nI (zp_ni P - 1)) = M2 at f2 w2 base bl bc ⊢
  refine zh_up (F := fun fu j N => lf_M_removes_34 52 fu j N) (zp_ni P - 1) (fun j N => i ≤ j ∧ zt_E o M2 N ∧ (∀ x, x < 262 * o + 62 → mm_I N 53 x = mm_I M2 53 x) ∧ ∀ k f, k < 40 → f < 5 → mm_I N 53 (262 * o + (62 + 5 * k + f)) = if i ≤ k ∧ k < j then mm_I M 53 (262 * o + (62 + 5 * (k + 1) + f)) else mm_I M 53 (262 * o + (62 + 5 * k + f))) ?_ ?_ fu_L i M2 (by omega) (by rw [zs_fuel]; omega) ⟨Nat.le_refl _, zt_E_rfl _ _, fun _ _ => rfl, fun k f hk hf => by rw [if_neg (by omega), base _ (by omega) (by omega)]⟩
  · intro fu j N hj ⟨g0, g1, g2, g3⟩ k
    have wN := w2.keep g1.1
    show zh_H (lb_M_removes_34 52 (lf_M_removes_34 52 fu) (nI j) N) _
    unfold lb_M_removes_34
    rw [eg N wN, Option.bind_some, g2 _ (by omega), bc, if_neg (nI_ge hj (by omega))]
    refine zt_item5k wN (i := j + 1) (j := j) (by omega) (by omega) (by omega) (F := fun fu' q N => lf_M_removes_46 (fun (M4 : mm_T) => (some (nI j + (1 : Int32))).bind fun x7 => lf_M_removes_34 52 fu x7 M4) 52 (nI j) fu' q N) (fun M4 => (some (nI j + (1 : Int32))).bind fun x7 => lf_M_removes_34 52 fu x7 M4) _ (fun fu' q N' => ?_) (fun N' p1 p2 p3 => ?_)
    · show lb_M_removes_46 _ 52 (nI j) (lf_M_removes_46 _ 52 (nI j) fu') q N' = _
      unfold lb_M_removes_46
      rw [nI_1]
    · rw [Option.bind_some, nI_1]
      refine k N' ⟨by omega, zt_E_tr g1 p1, fun x hx => ?_, fun c f hc hf => ?_⟩
      · rw [p2 x (by omega), g2 x hx]
      · by_cases e : c = j
        · rw [if_pos (by omega), e, p3 f hf, g3 (j + 1) f (by omega) hf, if_neg (by omega)]
        · rw [p2 _ (by omega), g3 c f hc hf]
          by_cases e2 : i ≤ c ∧ c < j
          · rw [if_pos e2, if_pos (by omega)]
          · rw [if_neg e2, if_neg (by omega)]
  · intro fu N ⟨g0, g1, g2, g3⟩
    have wN := w2.keep g1.1
    show zh_H (lb_M_removes_34 52 (lf_M_removes_34 52 fu) (nI (zp_ni P - 1)) N) _
    unfold lb_M_removes_34
    rw [eg N wN, Option.bind_some, g2 _ (by omega), bc, if_pos (nI_le (Nat.le_refl _) (by omega))]
    refine zh_some ⟨zt_E_tr f2 g1, wN.1, wN.2.1, wN.2.2, ⟨?_, ?_, fun c hc => ?_, fun c hc => ?_⟩, zp_rm_V hV hi⟩
    · rw [g2 _ (by omega), base _ (by omega) (by omega)]; exact h1
    · rw [g2 _ (by omega)]; exact bc
    · have hc' : c < zp_nb P := hc
      have hx := h3 c hc'
      refine ⟨?_, ?_⟩
      · rw [g2 _ (by omega)]
        show _ = nI ((if zp_bk P i < c + 1 then zp_st P (c + 1) - 1 else zp_st P (c + 1)) - (if zp_bk P i < c then zp_st P c - 1 else zp_st P c))
        by_cases e : c = zp_bk P i
        · rw [if_pos (by omega), if_neg (by omega), e, bl]
          congr 1
          omega
        · rw [base _ (by omega) (by omega), hx.1]
          congr 1
          by_cases e2 : zp_bk P i < c
          · have hm := zp_mono hV (b := zp_bk P i + 1) (c := c) (by omega) (by omega)
            rw [if_pos (by omega), if_pos e2]
            omega
          · rw [if_neg (by omega), if_neg e2]
      · rw [g2 _ (by omega), base _ (by omega) (by omega), g2 _ (by omega), base _ (by omega) (by omega), g2 _ (by omega), base _ (by omega) (by omega), g2 _ (by omega), base _ (by omega) (by omega)]
        exact hx.2
    · have hc' : c < zp_ni P - 1 := hc
      have eq2 : (zp_rm P i).2.2.2.2 c = if c < i then P.2.2.2.2 c else P.2.2.2.2 (c + 1) := rfl
      unfold zp_k zp_t zp_l zp_o zp_r
      rw [eq2, g3 c 0 (by omega) (by omega), g3 c 1 (by omega) (by omega), g3 c 2 (by omega) (by omega), g3 c 3 (by omega) (by omega), g3 c 4 (by omega) (by omega)]
      by_cases e : c < i
      · rw [if_pos e, if_neg (by omega), if_neg (by omega), if_neg (by omega), if_neg (by omega), if_neg (by omega)]
        exact h4 c (by omega)
      · rw [if_neg e, if_pos (by omega), if_pos (by omega), if_pos (by omega), if_pos (by omega), if_pos (by omega)]
        exact h4 (c + 1) (by omega)
/-- the instructions behind a place go up by one, the place is written -/
theorem zt_putin (h : zt_S M o P) {b i k t l c r : Nat} (hb : b < zp_nb P) (h1 : zp_st P b ≤ i) (h2 : i ≤ zp_st P (b + 1)) (hn : zp_ni P < 40) (hq : zp_iok (k, t, l, c, r)) (a2 : Int32) : zh_H (lf_M_inserts_37 (fun (M4 : mm_T) => (ff_M_writes 52 (nI i) (nI k) (nI t) (nI l) (nI c) (nI r) M4).bind fun M5 => (ff_M_bl 52 (nI b) (0 : Int32) M5).bind fun x8 => (ff_M_layBlock 52 (nI b) (0 : Int32) (x8 + (1 : Int32)) M5).bind fun M6 => (ff_M_get 52 (1 : Int32) M6).bind fun x9 => (ff_M_lay 52 (1 : Int32) (x9 + (1 : Int32)) M6).bind fun M7 => some (nI i, M7)) 52 (nI b) (nI k) (nI t) (nI l) (nI c) (nI r) (nI i) fu_L (nI (zp_ni P)) M) (fun y => ∃ N, y = (nI i, N) ∧ zt_E o M N ∧ zt_S N o (zp_ins P b i (k, t, l, c, r))) := by
  have hV := h.2.2.2.2
  have hnb := hV.2.1
  have hse := zp_st_le hV (b := b + 1) (by omega)
  have w0 := h.w
  obtain ⟨z1, z2, z3, z4⟩ := h.2.2.2.1
  have aux : ∀ (k0 : mm_T → Option (Int32 × mm_T)) (Q : Int32 × mm_T → Prop), (∀ N, zt_E o M N → (∀ x, x < 262 * o + 62 → mm_I N 53 x = mm_I M 53 x) → (∀ j f, j < 40 → f < 5 → mm_I N 53 (262 * o + (62 + 5 * j + f)) = if i < j ∧ j ≤ zp_ni P then mm_I M 53 (262 * o + (62 + 5 * (j - 1) + f)) else mm_I M 53 (262 * o + (62 + 5 * j + f))) → zh_H (k0 N) Q) → zh_H (lf_M_inserts_37 k0 52 (nI b) (nI k) (nI t) (nI l) (nI c) (nI r) (nI i) fu_L (nI (zp_ni P)) M) Q := by
    intro k0 Q hk
    refine zh_loop (F := fun fu (s : Nat × mm_T) => lf_M_inserts_37 k0 52 (nI b) (nI k) (nI t) (nI l) (nI c) (nI r) (nI i) fu (nI s.1) s.2) (fun s => i ≤ s.1 ∧ s.1 ≤ zp_ni P ∧ zt_E o M s.2 ∧ (∀ x, x < 262 * o + 62 → mm_I s.2 53 x = mm_I M 53 x) ∧ ∀ j f, j < 40 → f < 5 → mm_I s.2 53 (262 * o + (62 + 5 * j + f)) = if s.1 < j ∧ j ≤ zp_ni P then mm_I M 53 (262 * o + (62 + 5 * (j - 1) + f)) else mm_I M 53 (262 * o + (62 + 5 * j + f))) (fun s => s.1 - i) ?_ fu_L (zp_ni P, M) ⟨by show i ≤ zp_ni P; omega, Nat.le_refl _, zt_E_rfl _ _, fun _ _ => rfl, fun j f _ _ => by rw [if_neg (by show ¬ (zp_ni P < j ∧ j ≤ zp_ni P); omega)]⟩ (by rw [zs_fuel]; show zp_ni P - i < _; omega)
    intro fu s ⟨g0, g0', g1, g2, g3⟩ kk
    obtain ⟨j, N⟩ := s
    simp only at g0 g0' g1 g2 g3
    have wN := w0.keep g1.1
    show zh_H (lb_M_inserts_37 k0 52 (nI b) (nI k) (nI t) (nI l) (nI c) (nI r) (nI i) (lf_M_inserts_37 k0 52 (nI b) (nI k) (nI t) (nI l) (nI c) (nI r) (nI i) fu) (nI j) N) _
    unfold lb_M_inserts_37
    by_cases e : j ≤ i
    · rw [if_pos (nI_le e (by omega))]
      have : j = i := by omega
      subst this
      exact hk N g1 g2 g3
    · rw [if_neg (nI_ge (by omega) (by omega))]
      refine zt_item5k wN (i := j - 1) (j := j) (by omega) (by omega) (by omega) (F := fun fu' q N => lf_M_inserts_47 (fun (M3 : mm_T) => (some (nI j + (-1 : Int32))).bind fun x7 => lf_M_inserts_37 k0 52 (nI b) (nI k) (nI t) (nI l) (nI c) (nI r) (nI i) fu x7 M3) 52 (nI b) (nI k) (nI t) (nI l) (nI c) (nI r) (nI i) (nI j) fu' q N) (fun M3 => (some (nI j + (-1 : Int32))).bind fun x7 => lf_M_inserts_37 k0 52 (nI b) (nI k) (nI t) (nI l) (nI c) (nI r) (nI i) fu x7 M3) _ (fun fu' q N' => ?_) (fun N' p1 p2 p3 => ?_)
      · show lb_M_inserts_47 _ 52 (nI b) (nI k) (nI t) (nI l) (nI c) (nI r) (nI i) (nI j) (lf_M_inserts_47 _ 52 (nI b) (nI k) (nI t) (nI l) (nI c) (nI r) (nI i) (nI j) fu') q N' = _
        unfold lb_M_inserts_47
        rw [show nI j - (1 : Int32) = nI (j - 1) from zi_sub (b := 1) (by omega)]
      · rw [Option.bind_some, zi_dec' (by omega)]
        refine kk (j - 1, N') ⟨by show i ≤ j - 1; omega, by show j - 1 ≤ _; omega, zt_E_tr g1 p1, fun x hx => ?_, fun x f hx hf => ?_⟩ (by show j - 1 - i < j - i; omega)
        · show mm_I N' 53 x = _
          rw [p2 x (by omega), g2 x hx]
        · show mm_I N' 53 _ = if j - 1 < x ∧ x ≤ zp_ni P then _ else _
          by_cases e3 : x = j
          · rw [if_pos (by omega), e3, p3 f hf, g3 (j - 1) f (by omega) hf, if_neg (by omega)]
          · rw [p2 _ (by omega), g3 x f hx hf]
            by_cases e2 : j < x ∧ x ≤ zp_ni P
            · rw [if_pos e2, if_pos (by omega)]
            · rw [if_neg e2, if_neg (by omega)]
  refine aux _ _ (fun N g1 g2 g3 => ?_)
  have wN := w0.keep g1.1
  obtain ⟨M5, e5, f5, o5, c0, c1, c2, c3, c4⟩ := zt_writes wN (k := k) (t := t) (l := l) (c := c) (r := r) (show i < 40 by omega)
  have w5 := wN.keep f5
  show zh_H ((ff_M_writes 52 (nI i) (nI k) (nI t) (nI l) (nI c) (nI r) N).bind _) _
  have eb : ff_M_bl 52 (nI b) 0 M5 = some (nI (zp_st P (b + 1) - zp_st P b)) := by
    rw [show (0 : Int32) = nI 0 from rfl, zt_bl0 w5.1 w5.2.1 w5.2.2 (show b < 12 by omega) (show 0 < 5 by omega), o5 _ (by omega), g2 _ (by omega), (z3 b hb).1]
  have el : ff_M_layBlock 52 (nI b) 0 (nI (zp_st P (b + 1) - zp_st P b + 1)) M5 = some (mm_sI M5 53 (262 * o + (2 + 5 * b + 0)) (nI (zp_st P (b + 1) - zp_st P b + 1))) := zt_layB w5 (f := 0) (by omega) (by omega) _
  have w6 := w5.keep (zt_f53 M5 (262 * o + (2 + 5 * b + 0)) (nI (zp_st P (b + 1) - zp_st P b + 1)))
  have eg : ff_M_get 52 1 (mm_sI M5 53 (262 * o + (2 + 5 * b + 0)) (nI (zp_st P (b + 1) - zp_st P b + 1))) = some (nI (zp_ni P)) := by
    have := zt_get (w := 1) w6.1 w6.2.1 w6.2.2 (by omega)
    rw [show (1 : Int32) = nI 1 from rfl, this, zm_II, if_neg (by omega), o5 _ (by omega), g2 _ (by omega), z2]
  have ey : ff_M_lay 52 1 (nI (zp_ni P + 1)) (mm_sI M5 53 (262 * o + (2 + 5 * b + 0)) (nI (zp_st P (b + 1) - zp_st P b + 1))) = some (mm_sI (mm_sI M5 53 (262 * o + (2 + 5 * b + 0)) (nI (zp_st P (b + 1) - zp_st P b + 1))) 53 (262 * o + 1) (nI (zp_ni P + 1))) := zt_lay (w := 1) w6.1 w6.2.1 w6.2.2 (by omega) _
  rw [e5, Option.bind_some, eb, Option.bind_some, nI_1, el, Option.bind_some, eg, Option.bind_some, nI_1, ey, Option.bind_some]
  have f7 : zt_E o M5 (mm_sI (mm_sI M5 53 (262 * o + (2 + 5 * b + 0)) (nI (zp_st P (b + 1) - zp_st P b + 1))) 53 (262 * o + 1) (nI (zp_ni P + 1))) := zt_E_tr (zt_E_1 M5 _ (by omega)) (zt_E_1 _ _ (by omega))
  have w7 := w5.keep f7.1
  have base : ∀ x, x ≠ 262 * o + (2 + 5 * b + 0) → x ≠ 262 * o + 1 → mm_I (mm_sI (mm_sI M5 53 (262 * o + (2 + 5 * b + 0)) (nI (zp_st P (b + 1) - zp_st P b + 1))) 53 (262 * o + 1) (nI (zp_ni P + 1))) 53 x = mm_I M5 53 x := fun x y1 y2 => by rw [zm_II, if_neg (fun z => y2 z.2), zm_II, if_neg (fun z => y1 z.2)]
  refine zh_some ⟨_, rfl, zt_E_tr g1 (zt_E_tr ⟨f5, fun x hx => o5 x (by omega)⟩ f7), w7.1, w7.2.1, w7.2.2, ⟨?_, ?_, fun x hx => ?_, fun x hx => ?_⟩, zp_ins_V hV hb h1 h2 hn hq⟩
  · rw [base _ (by omega) (by omega), o5 _ (by omega), g2 _ (by omega)]; exact z1
  · rw [zm_II, if_pos ⟨rfl, rfl⟩]; rfl
  · have hx' : x < zp_nb P := hx
    have zx := z3 x hx'
    have hms := hV.2.2.2.2.1 x hx'
    refine ⟨?_, ?_⟩
    · show _ = nI ((if b < x + 1 then zp_st P (x + 1) + 1 else zp_st P (x + 1)) - (if b < x then zp_st P x + 1 else zp_st P x))
      by_cases e : x = b
      · subst e
        rw [zm_II, if_neg (by omega), zm_II, if_pos ⟨rfl, rfl⟩, if_pos (by omega), if_neg (by omega)]
        congr 1
        omega
      · rw [base _ (by omega) (by omega), o5 _ (by omega), g2 _ (by omega), zx.1]
        congr 1
        by_cases e2 : b < x
        · rw [if_pos (by omega), if_pos e2]; omega
        · rw [if_neg (by omega), if_neg e2]
    · rw [base _ (by omega) (by omega), o5 _ (by omega), g2 _ (by omega), base _ (by omega) (by omega), o5 _ (by omega), g2 _ (by omega), base _ (by omega) (by omega), o5 _ (by omega), g2 _ (by omega), base _ (by omega) (by omega), o5 _ (by omega), g2 _ (by omega)]
      exact zx.2
  · have hx' : x < zp_ni P + 1 := hx
    have eq2 : (zp_ins P b i (k, t, l, c, r)).2.2.2.2 x = if x < i then P.2.2.2.2 x else if x = i then (k, t, l, c, r) else P.2.2.2.2 (x - 1) := rfl
    unfold zp_k zp_t zp_l zp_o zp_r
    rw [eq2, base _ (by omega) (by omega), base _ (by omega) (by omega), base _ (by omega) (by omega), base _ (by omega) (by omega), base _ (by omega) (by omega)]
    by_cases e : x = i
    · rw [if_neg (by omega), if_pos e, e]
      exact ⟨c0, c1, c2, c3, c4⟩
    · rw [o5 _ (by omega), o5 _ (by omega), o5 _ (by omega), o5 _ (by omega), o5 _ (by omega), g3 x 0 (by omega) (by omega), g3 x 1 (by omega) (by omega), g3 x 2 (by omega) (by omega), g3 x 3 (by omega) (by omega), g3 x 4 (by omega) (by omega)]
      by_cases e2 : x < i
      · rw [if_pos e2, if_neg (by omega), if_neg (by omega), if_neg (by omega), if_neg (by omega), if_neg (by omega)]
        exact z4 x (by omega)
      · rw [if_neg e2, if_neg e, if_pos (by omega), if_pos (by omega), if_pos (by omega), if_pos (by omega), if_pos (by omega)]
        exact z4 (x - 1) (by omega)
end ZTX
