/-! ===== the reference: slots are copied, items and exits written ===== -/
theorem zt_H.slot {M M' : mm_T} {a b : Nat} {P : zp_T} (h : zt_H M a P) (hV : zp_V P) (he : ∀ k, k < 262 → mm_I M' 53 (262 * b + k) = mm_I M 53 (262 * a + k)) : zt_H M' b P := by
  have hnb := hV.2.1
  have hni := hV.2.2.1
  obtain ⟨h1, h2, h3, h4⟩ := h
  refine ⟨by rw [he 0 (by omega)]; exact h1, by rw [he 1 (by omega)]; exact h2, fun c hc => ?_, fun i hi => ?_⟩
  · rw [he (2 + 5 * c + 0) (by omega), he (2 + 5 * c + 1) (by omega), he (2 + 5 * c + 2) (by omega), he (2 + 5 * c + 3) (by omega), he (2 + 5 * c + 4) (by omega)]
    exact h3 c hc
  · rw [he (62 + 5 * i + 0) (by omega), he (62 + 5 * i + 1) (by omega), he (62 + 5 * i + 2) (by omega), he (62 + 5 * i + 3) (by omega), he (62 + 5 * i + 4) (by omega)]
    exact h4 i hi
/-- slot o can be read and written -/
def zt_W (M : mm_T) (o : Nat) : Prop := zt_R M ∧ mm_I M 52 2 = nI o ∧ o ≤ 9
theorem zt_S.w {M : mm_T} {o : Nat} {P : zp_T} (h : zt_S M o P) : zt_W M o := ⟨h.1, h.2.1, h.2.2.1⟩
theorem zt_W.keep {M M' : mm_T} {o : Nat} (h : zt_W M o) (f : zf_F M M' (fun a => a = 53)) : zt_W M' o := ⟨h.1.keep f, (zf_i f (by omega) 2).trans h.2.1, h.2.2⟩
theorem zt_We {M : mm_T} {o : Nat} (h : zt_W M o) : (mm_k M 52).1 = 11 := by rw [h.1.1]
section ZTW
variable {M : mm_T} {o : Nat}
theorem zt_layB (h : zt_W M o) {b f : Nat} (hb : b < 12) (hf : f < 5) (v : Int32) : ff_M_layBlock 52 (nI b) (nI f) v M = some (mm_sI M 53 (262 * o + (2 + 5 * b + f)) v) := by
  unfold ff_M_layBlock
  rw [zq_gd (zt_We h), show (2 : Int32) = nI 2 from rfl, show (5 : Int32) = nI 5 from rfl, zi_mul, nI_add, nI_add, zt_lay h.1 h.2.1 h.2.2 (by omega), Option.bind_some]
theorem zt_layI (h : zt_W M o) {i f : Nat} (hi : i < 40) (hf : f < 5) (v : Int32) : ff_M_layItem 52 (nI i) (nI f) v M = some (mm_sI M 53 (262 * o + (62 + 5 * i + f)) v) := by
  unfold ff_M_layItem
  rw [zq_gd (zt_We h), show (62 : Int32) = nI 62 from rfl, show (5 : Int32) = nI 5 from rfl, zi_mul, nI_add, nI_add, zt_lay h.1 h.2.1 h.2.2 (by omega), Option.bind_some]
theorem zt_f53 (M : mm_T) (k : Nat) (v : Int32) : zf_F M (mm_sI M 53 k v) (fun a => a = 53) := zf_I1 _ _ _ _
theorem zt_exits (h : zt_W M o) {b w x f s : Nat} (hb : b < 12) : ∃ M', ff_M_exits 52 (nI b) (nI w) (nI x) (nI f) (nI s) M = some M' ∧ zf_F M M' (fun a => a = 53) ∧ (∀ k, (k < 262 * o + (2 + 5 * b + 1) ∨ 262 * o + (2 + 5 * b + 5) ≤ k) → mm_I M' 53 k = mm_I M 53 k) ∧ mm_I M' 53 (262 * o + (2 + 5 * b + 1)) = nI w ∧ mm_I M' 53 (262 * o + (2 + 5 * b + 2)) = nI x ∧ mm_I M' 53 (262 * o + (2 + 5 * b + 3)) = nI f ∧ mm_I M' 53 (262 * o + (2 + 5 * b + 4)) = nI s := by
  have e1 := zt_layB h (f := 1) hb (by omega) (nI w)
  have w1 := h.keep (zt_f53 M (262 * o + (2 + 5 * b + 1)) (nI w))
  have e2 := zt_layB w1 (f := 2) hb (by omega) (nI x)
  have w2 := w1.keep (zt_f53 _ (262 * o + (2 + 5 * b + 2)) (nI x))
  have e3 := zt_layB w2 (f := 3) hb (by omega) (nI f)
  have w3 := w2.keep (zt_f53 _ (262 * o + (2 + 5 * b + 3)) (nI f))
  have e4 := zt_layB w3 (f := 4) hb (by omega) (nI s)
  unfold ff_M_exits
  rw [zq_gd (zt_We h), show (1 : Int32) = nI 1 from rfl, e1, Option.bind_some, show (2 : Int32) = nI 2 from rfl, e2, Option.bind_some, show (3 : Int32) = nI 3 from rfl, e3, Option.bind_some, show (4 : Int32) = nI 4 from rfl, e4, Option.bind_some]
  refine ⟨_, rfl, zf_tr (zt_f53 _ _ _) (zf_tr (zt_f53 _ _ _) (zf_tr (zt_f53 _ _ _) (zt_f53 _ _ _))), fun k hk => ?_, ?_, ?_, ?_, ?_⟩
  · rw [zm_II, if_neg (by omega), zm_II, if_neg (by omega), zm_II, if_neg (by omega), zm_II, if_neg (by omega)]
  · rw [zm_II, if_neg (by omega), zm_II, if_neg (by omega), zm_II, if_neg (by omega), zm_II, if_pos ⟨rfl, rfl⟩]
  · rw [zm_II, if_neg (by omega), zm_II, if_neg (by omega), zm_II, if_pos ⟨rfl, rfl⟩]
  · rw [zm_II, if_neg (by omega), zm_II, if_pos ⟨rfl, rfl⟩]
  · rw [zm_II, if_pos ⟨rfl, rfl⟩]
theorem zt_writes (h : zt_W M o) {i k t l c r : Nat} (hi : i < 40) : ∃ M', ff_M_writes 52 (nI i) (nI k) (nI t) (nI l) (nI c) (nI r) M = some M' ∧ zf_F M M' (fun a => a = 53) ∧ (∀ x, (x < 262 * o + (62 + 5 * i) ∨ 262 * o + (62 + 5 * i + 5) ≤ x) → mm_I M' 53 x = mm_I M 53 x) ∧ mm_I M' 53 (262 * o + (62 + 5 * i + 0)) = nI k ∧ mm_I M' 53 (262 * o + (62 + 5 * i + 1)) = nI t ∧ mm_I M' 53 (262 * o + (62 + 5 * i + 2)) = nI l ∧ mm_I M' 53 (262 * o + (62 + 5 * i + 3)) = nI c ∧ mm_I M' 53 (262 * o + (62 + 5 * i + 4)) = nI r := by
  have e0 := zt_layI h (f := 0) hi (by omega) (nI k)
  have w0 := h.keep (zt_f53 M (262 * o + (62 + 5 * i + 0)) (nI k))
  have e1 := zt_layI w0 (f := 1) hi (by omega) (nI t)
  have w1 := w0.keep (zt_f53 _ (262 * o + (62 + 5 * i + 1)) (nI t))
  have e2 := zt_layI w1 (f := 2) hi (by omega) (nI l)
  have w2 := w1.keep (zt_f53 _ (262 * o + (62 + 5 * i + 2)) (nI l))
  have e3 := zt_layI w2 (f := 3) hi (by omega) (nI c)
  have w3 := w2.keep (zt_f53 _ (262 * o + (62 + 5 * i + 3)) (nI c))
  have e4 := zt_layI w3 (f := 4) hi (by omega) (nI r)
  unfold ff_M_writes
  rw [zq_gd (zt_We h), show (0 : Int32) = nI 0 from rfl, e0, Option.bind_some, show (1 : Int32) = nI 1 from rfl, e1, Option.bind_some, show (2 : Int32) = nI 2 from rfl, e2, Option.bind_some, show (3 : Int32) = nI 3 from rfl, e3, Option.bind_some, show (4 : Int32) = nI 4 from rfl, e4, Option.bind_some]
  refine ⟨_, rfl, zf_tr (zt_f53 _ _ _) (zf_tr (zt_f53 _ _ _) (zf_tr (zt_f53 _ _ _) (zf_tr (zt_f53 _ _ _) (zt_f53 _ _ _)))), fun x hx => ?_, ?_, ?_, ?_, ?_, ?_⟩
  · rw [zm_II, if_neg (by omega), zm_II, if_neg (by omega), zm_II, if_neg (by omega), zm_II, if_neg (by omega), zm_II, if_neg (by omega)]
  · rw [zm_II, if_neg (by omega), zm_II, if_neg (by omega), zm_II, if_neg (by omega), zm_II, if_neg (by omega), zm_II, if_pos ⟨rfl, rfl⟩]
  · rw [zm_II, if_neg (by omega), zm_II, if_neg (by omega), zm_II, if_neg (by omega), zm_II, if_pos ⟨rfl, rfl⟩]
  · rw [zm_II, if_neg (by omega), zm_II, if_neg (by omega), zm_II, if_pos ⟨rfl, rfl⟩]
  · rw [zm_II, if_neg (by omega), zm_II, if_pos ⟨rfl, rfl⟩]
  · rw [zm_II, if_pos ⟨rfl, rfl⟩]
theorem zt_copies (h : zt_R M) {a b : Nat} (ha : a ≤ 9) (hb : b ≤ 9) (hab : a ≠ b) : ∃ M', ff_M_copies 52 (nI a) (nI b) M = some M' ∧ zf_F M M' (fun x => x = 53) ∧ (∀ k, (k < 262 * b ∨ 262 * b + 262 ≤ k) → mm_I M' 53 k = mm_I M 53 k) ∧ ∀ k, k < 262 → mm_I M' 53 (262 * b + k) = mm_I M 53 (262 * a + k) := by
  have e52 : (mm_k M 52).1 = 11 := by rw [h.1]
  suffices goal : zh_H (ff_M_copies 52 (nI a) (nI b) M) (fun M' => zf_F M M' (fun x => x = 53) ∧ (∀ k, (k < 262 * b ∨ 262 * b + 262 ≤ k) → mm_I M' 53 k = mm_I M 53 k) ∧ ∀ k, k < 262 → mm_I M' 53 (262 * b + k) = mm_I M 53 (262 * a + k)) from goal
  unfold ff_M_copies
  rw [zq_gd e52]
  refine zh_up (F := fun fu i N => lf_M_copies_2 52 (nI a) (nI b) fu i N) 262 (fun i N => zf_F M N (fun x => x = 53) ∧ (∀ k, (k < 262 * b ∨ 262 * b + 262 ≤ k) → mm_I N 53 k = mm_I M 53 k) ∧ ∀ k, k < i → mm_I N 53 (262 * b + k) = mm_I M 53 (262 * a + k)) ?_ ?_ fu_L 0 M (Nat.zero_le _) (by rw [zs_fuel]; omega) ⟨zf_rfl _ _, fun _ _ => rfl, fun k hk => absurd hk (Nat.not_lt_zero _)⟩
  · intro fu i N hi ⟨g1, g2, g3⟩ k
    have hN := h.keep g1
    have e52' : (mm_k N 52).1 = 11 := by rw [hN.1]
    show zh_H (lb_M_copies_2 52 (nI a) (nI b) (lf_M_copies_2 52 (nI a) (nI b) fu) (nI i) N) _
    unfold lb_M_copies_2
    rw [if_neg (show ¬ (262 : Int32) ≤ nI i from nI_ge (b := 262) hi (by omega))]
    simp only [zg_R e52', Option.bind_some, hN.2.1.1]
    rw [show (262 : Int32) = nI 262 from rfl, zi_mul, nI_add, za_I hN.2.2.1 (by omega) (by omega), Option.bind_some, zi_mul, nI_add, zw_I hN.2.2.1 (by omega) (by omega), Option.bind_some, nI_1]
    refine k _ ⟨zf_tr g1 (zf_I1 _ _ _ _), fun x hx => ?_, fun x hx => ?_⟩
    · rw [zm_II, if_neg (by omega)]; exact g2 x hx
    · rw [zm_II]
      by_cases c : x = i
      · rw [if_pos ⟨rfl, by rw [c]⟩, g2 _ (by omega), c]
      · rw [if_neg (by omega)]; exact g3 x (by omega)
  · intro fu N ⟨g1, g2, g3⟩
    show zh_H (lb_M_copies_2 52 (nI a) (nI b) (lf_M_copies_2 52 (nI a) (nI b) fu) (nI 262) N) _
    unfold lb_M_copies_2
    rw [if_pos (show (262 : Int32) ≤ nI 262 from nI_le (a := 262) (Nat.le_refl _) (by omega))]
    exact zh_some ⟨g1, g2, g3⟩
end ZTW
/-! the undo stack of the reference: U 0 is the latest -/
def zt_K (M : mm_T) (U : Nat → zp_T) (n : Nat) : Prop := n ≤ 6 ∧ mm_I M 52 3 = nI n ∧ ∀ k, k < n → zt_H M (n - k) (U k) ∧ zp_V (U k)
def zu_push (P : zp_T) (U : Nat → zp_T) : Nat → zp_T := fun k => if k = 0 then P else U (k - 1)
def zt_G (M M' : mm_T) : Prop := zf_F M M' (fun a => a = 52 ∨ a = 53) ∧ (∀ k, k ≠ 3 → mm_I M' 52 k = mm_I M 52 k) ∧ ∀ k, (k < 262 ∨ 1834 ≤ k) → mm_I M' 53 k = mm_I M 53 k
section ZTK
variable {M : mm_T} {P : zp_T}
theorem zt_keeps (h : zt_S M 0 P) {U : Nat → zp_T} {n : Nat} (hK : zt_K M U n) : ∃ M', ff_M_keeps 52 M = some M' ∧ zt_G M M' ∧ zt_K M' (zu_push P U) (if n = 6 then 6 else n + 1) := by
  obtain ⟨hn, h3, hU⟩ := hK
  have hV := h.2.2.2.2
  have e52 := zt_e52 h
  have fin : ∀ (N : mm_T) (U2 : Nat → zp_T) (m : Nat), m ≤ 5 → zt_G M N → mm_I N 52 3 = nI m → (∀ k, k < m → zt_H N (m - k) (U k) ∧ zp_V (U k)) → zh_H ((gf_I N 52 11 3).bind fun x2 => (ff_M_copies 52 (0 : Int32) ((1 : Int32) + x2) N).bind fun M2 => (gf_I M2 52 11 3).bind fun x3 => (pf_I M2 52 11 3 (x3 + (1 : Int32))).bind fun M3 => some M3) (fun M' => zt_G M M' ∧ zt_K M' (zu_push P U) (m + 1)) := by
    intro N U2 m hm g g3 gU
    have hR : zt_R N := h.1.keep g.1
    have eN : (mm_k N 52).1 = 11 := by rw [hR.1]
    obtain ⟨M2, e2, f2, o2, c2⟩ := zt_copies hR (a := 0) (b := 1 + m) (by omega) (by omega) (by omega)
    have eM2 : (mm_k M2 52).1 = 11 := by rw [(hR.keep f2).1]
    have g32 : mm_I M2 52 3 = nI m := by rw [zf_i f2 (by omega), g3]
    have e2' : ff_M_copies 52 (0 : Int32) (nI (1 + m)) N = some M2 := e2
    rw [zg_I eN, Option.bind_some, g3, show (1 : Int32) = nI 1 from rfl, nI_add, e2', Option.bind_some, zg_I eM2, Option.bind_some, g32, nI_add, zp_I eM2, Option.bind_some]
    refine zh_some ⟨⟨zf_tr g.1 (zf_tr (zf_mono f2 (fun a q => Or.inr q)) (zf_I (Or.inl rfl) _ _)), fun k hk => ?_, fun k hk => ?_⟩, by omega, ?_, fun k hk => ?_⟩
    · rw [zm_II, if_neg (by omega), zf_i f2 (by omega), g.2.1 k hk]
    · rw [zm_II, if_neg (by omega), o2 k (by omega), g.2.2 k hk]
    · rw [zm_II, if_pos ⟨rfl, rfl⟩]
    · show zt_H _ (m + 1 - k) (if k = 0 then P else U (k - 1)) ∧ zp_V (if k = 0 then P else U (k - 1))
      by_cases c : k = 0
      · rw [if_pos c, c]
        refine ⟨zt_H.slot h.2.2.2.1 hV (fun x hx => ?_), hV⟩
        rw [zm_II, if_neg (by omega), show m + 1 - 0 = 1 + m by omega, c2 x hx, g.2.2 _ (by omega)]
      · rw [if_neg c]
        obtain ⟨q1, q2⟩ := gU (k - 1) (by omega)
        refine ⟨zt_H.slot q1 q2 (fun x hx => ?_), q2⟩
        rw [zm_II, if_neg (by omega), show m + 1 - k = m - (k - 1) by omega, o2 _ (by omega)]
  suffices goal : zh_H (ff_M_keeps 52 M) (fun M' => zt_G M M' ∧ zt_K M' (zu_push P U) (if n = 6 then 6 else n + 1)) from goal
  unfold ff_M_keeps
  rw [zq_gd e52, zg_I e52, Option.bind_some, zq_jp, h3]
  by_cases c6 : n = 6
  · subst c6
    rw [if_pos (show nI 6 = (6 : Int32) from rfl), if_pos (show (6 : Nat) = 6 from rfl)]
    have aux : ∀ (k0 : mm_T → Option mm_T) (Q : mm_T → Prop), (∀ N, zf_F M N (fun a => a = 53) → (∀ k, (k < 262 ∨ 1834 ≤ k) → mm_I N 53 k = mm_I M 53 k) → (∀ s, 1 ≤ s → s ≤ 5 → ∀ k, k < 262 → mm_I N 53 (262 * s + k) = mm_I M 53 (262 * (s + 1) + k)) → zh_H (k0 N) Q) → zh_H (lf_M_keeps_11 k0 52 fu_L 1 M) Q := by
      intro k0 Q hk
      refine zh_up (F := fun fu j N => lf_M_keeps_11 k0 52 fu j N) 6 (fun j N => 1 ≤ j ∧ zf_F M N (fun a => a = 53) ∧ (∀ k, (k < 262 ∨ 1834 ≤ k) → mm_I N 53 k = mm_I M 53 k) ∧ ∀ s, 1 ≤ s → s ≤ 6 → ∀ k, k < 262 → mm_I N 53 (262 * s + k) = if s < j then mm_I M 53 (262 * (s + 1) + k) else mm_I M 53 (262 * s + k)) ?_ ?_ fu_L 1 M (by omega) (by rw [zs_fuel]; omega) ⟨Nat.le_refl _, zf_rfl _ _, fun _ _ => rfl, fun s h1 h2 k hk => by rw [if_neg (by omega)]⟩
      · intro fu j N hj ⟨g0, g1, g2, g4⟩ k
        have hR := h.1.keep g1
        show zh_H (lb_M_keeps_11 k0 52 (lf_M_keeps_11 k0 52 fu) (nI j) N) _
        unfold lb_M_keeps_11
        rw [if_neg (show ¬ (6 : Int32) ≤ nI j from nI_ge (b := 6) hj (by omega)), show (1 : Int32) = nI 1 from rfl, nI_add, zi_sub (by omega), show 1 + j - 1 = j by omega]
        obtain ⟨M4, e4, f4, o4, c4⟩ := zt_copies hR (a := 1 + j) (b := j) (by omega) (by omega) (by omega)
        rw [e4, Option.bind_some, Option.bind_some, nI_add]
        refine k M4 ⟨by omega, zf_tr g1 f4, fun x hx => ?_, fun s h1 h2 x hx => ?_⟩
        · rw [o4 x (by omega), g2 x hx]
        · by_cases c : s = j
          · rw [if_pos (by omega), c, c4 x hx, g4 (1 + j) (by omega) (by omega) x hx, if_neg (by omega), show j + 1 = 1 + j by omega]
          · rw [o4 _ (by omega), g4 s h1 h2 x hx]
            by_cases c2 : s < j
            · rw [if_pos c2, if_pos (by omega)]
            · rw [if_neg c2, if_neg (by omega)]
      · intro fu N ⟨g0, g1, g2, g4⟩
        show zh_H (lb_M_keeps_11 k0 52 (lf_M_keeps_11 k0 52 fu) (nI 6) N) _
        unfold lb_M_keeps_11
        rw [if_pos (show (6 : Int32) ≤ nI 6 from nI_le (a := 6) (Nat.le_refl _) (by omega))]
        exact hk N g1 g2 (fun s h1 h2 x hx => by rw [g4 s h1 (by omega) x hx, if_pos (by omega)])
    refine aux _ _ (fun N f o s => ?_)
    have hR : zt_R N := h.1.keep f
    have eN : (mm_k N 52).1 = 11 := by rw [hR.1]
    show zh_H ((gf_I N 52 11 3).bind fun x5 => (pf_I N 52 11 3 (x5 - (1 : Int32))).bind _) _
    rw [zg_I eN, Option.bind_some, zf_i f (by omega), h3, show (1 : Int32) = nI 1 from rfl, zi_sub (by omega), zp_I eN, Option.bind_some]
    refine fin _ U 5 (by omega) ⟨zf_tr (zf_mono f (fun a q => Or.inr q)) (zf_I (Or.inl rfl) _ _), fun k hk => ?_, fun k hk => ?_⟩ (by rw [zm_II, if_pos ⟨rfl, rfl⟩]) (fun k hk => ?_)
    · rw [zm_II, if_neg (by omega), zf_i f (by omega)]
    · rw [zm_II, if_neg (by omega), o k hk]
    · obtain ⟨q1, q2⟩ := hU k (by omega)
      refine ⟨zt_H.slot q1 q2 (fun x hx => ?_), q2⟩
      rw [zm_II, if_neg (by omega), s (5 - k) (by omega) (by omega) x hx, show 5 - k + 1 = 6 - k by omega]
  · rw [if_neg (show ¬ nI n = (6 : Int32) from fun z => c6 ((nI_eq (b := 6) (by omega) (by omega)).mp z)), if_neg c6]
    exact fin M U n (by omega) ⟨zf_rfl _ _, fun _ _ => rfl, fun _ _ => rfl⟩ h3 hU
theorem zt_S.keepG {M M' : mm_T} {P : zp_T} (h : zt_S M 0 P) (g : zt_G M M') : zt_S M' 0 P := ⟨h.1.keep g.1, (g.2.1 2 (by omega)).trans h.2.1, h.2.2.1, zt_H.slot h.2.2.2.1 h.2.2.2.2 (fun k hk => g.2.2 _ (by omega)), h.2.2.2.2⟩
end ZTK
