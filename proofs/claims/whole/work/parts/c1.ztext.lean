/-! ===== the text buffer, both sides ===== -/
def zT_b (w : Int32) (sh : Nat) : Nat := (io_ushr w (nI sh)).toBitVec.toNat % 256
theorem zT_b_lt (w : Int32) (sh : Nat) : zT_b w sh < 256 := Nat.mod_lt _ (by decide)
theorem zT_255 (x : Int32) : x &&& 255 = nI (x.toBitVec.toNat % 256) := by
  have e : x = nI x.toBitVec.toNat := by
    apply Int32.toBitVec_inj.mp
    show x.toBitVec = BitVec.ofNat 32 x.toBitVec.toNat
    simp
  have m := zw_mask x.toBitVec.toNat 8
  rw [show nI (2 ^ 8 - 1) = (255 : Int32) from rfl] at m
  rw [← show (2 : Nat) ^ 8 = 256 from rfl, ← m, ← e]
theorem zT_u (w : Int32) (sh : Nat) : io_ushr w (nI sh) &&& 255 = nI (zT_b w sh) := zT_255 _
theorem zT_s (w : Int32) {sh : Nat} (h : sh ≤ 24) : io_shr w (nI sh) &&& 255 = nI (zT_b w sh) := by
  rw [← zT_u]
  refine b_ext fun i hi => ?_
  unfold io_shr io_ushr
  rw [b_and, b_and, b_255, b_sshr sh (by omega) w hi, b_ushr sh (by omega)]
  by_cases c : i < 8
  · rw [if_pos (by omega)]
  · rw [decide_eq_false c, Bool.and_false, Bool.and_false]
def zT_add (tx : (Nat → Nat) × Nat) (b : Nat) : (Nat → Nat) × Nat := (fun i => if i = tx.2 then b else tx.1 i, tx.2 + 1)
def zT_app (tx : (Nat → Nat) × Nat) (w : Int32) : (Nat → Nat) × Nat := zT_add (zT_add (zT_add (zT_add tx (zT_b w 24)) (zT_b w 16)) (zT_b w 8)) (zT_b w 0)
def zy_txt (s : zy_T) (tx : (Nat → Nat) × Nat) : zy_T := (zy_P s, zy_u s, zy_n s, tx, zy_c s, zy_v s)
def zy_prs (s : zy_T) (tx : (Nat → Nat) × Nat) (e : Nat × Int32) : zy_T := (zy_P s, zy_u s, zy_n s, tx, e, zy_v s)
def zv_appendText (s : zy_T) (w : Int32) : (Nat × Int32) × zy_T := if (zy_t s).2 + 4 ≤ 700 then ((0, nI ((zy_t s).2 + 4)), zy_txt s (zT_app (zy_t s) w)) else ((1, 0), s)
def zv_truncateText (s : zy_T) (a : Int32) : (Nat × Int32) × zy_T := if zi_A ((zy_t s).2 + 1) a then ((0, a), zy_txt s ((zy_t s).1, zi_n a)) else ((1, 0), s)
/-- what the parser may write: its own cells and the draft -/
def zy_Ap (a : Nat) : Prop := 2 ≤ a ∧ a ≤ 12
section ZYC1
variable {M : mm_T} {s : zy_T}
theorem zy_p.keep {M M' : mm_T} {A : Nat → Prop} (h : zy_p M) (hf : zf_F M M' A) : zy_p M' := by
  unfold zy_p
  simp only [zf_k hf, zf_R hf]
  exact h
theorem zy_C.parser {M' : mm_T} (h : zy_C M s) (f : zf_F M M' zy_Ap) {tx : (Nat → Nat) × Nat} {e : Nat × Int32} (hx : zy_x M' tx) (he : zy_e M' e) : zy_C M' (zy_prs s tx e) := by
  obtain ⟨⟨h63, ⟨n1, n2, n3, n4⟩, hD, hU, ⟨s0, s1⟩, _, _, ho⟩, hQ⟩ := h
  have nA : ∀ a, 13 ≤ a → ¬ zy_Ap a := fun a ha z => by unfold zy_Ap at z; omega
  exact ⟨⟨by rw [f.1]; exact h63, ⟨n1.keep f, n2.keep f, n3.keep f, n4.keep f⟩, hD.keepX h63 (zu_F f), hU.keepX hD h63 (zu_F f) (fun a z y => by unfold zy_Ap at y; omega), ⟨s0.keepX (by omega) hD h63 (zu_F f) (fun a z y => by unfold zy_Ap at y; omega), s1.keepX (by omega) hD h63 (zu_F f) (fun a z y => by unfold zy_Ap at y; omega)⟩, hx, he, (zf_i f (nA 13 (by omega)) 1).trans ho.1, ho.2.1, fun i hi => (zf_i f (nA 14 (by omega)) i).trans (ho.2.2 i hi)⟩, hQ.keepL (zl_F f) (fun a z => by unfold zy_Ap at z; omega)⟩
theorem zy_ApY {M' : mm_T} (f : zf_F M M' zy_Ap) : zy_Y M M' zy_A 0 0 := zy_Ywk (zy_YX (zu_F f)) (Nat.le_refl _) (Nat.le_refl _) (fun a _ z => by unfold zy_Ap at z; unfold zy_A; omega)
/-- one byte is added, in the class -/
theorem zT_addC (hp : zy_p M) {tx : (Nat → Nat) × Nat} (hx : zy_x M tx) {b : Nat} (hb : b < 256) (hl : tx.2 < 700) : ∃ M', ff_S_addByte 9 (nI b) M = some M' ∧ zf_F M M' (fun a => a = 9 ∨ a = 10) ∧ zy_x M' (zT_add tx b) ∧ ∀ k, k ≠ 1 → mm_I M' 9 k = mm_I M 9 k := by
  have e9 : (mm_k M 9).1 = 6 := by rw [hp.1]
  unfold ff_S_addByte
  rw [zq_gd e9, zg_R e9, Option.bind_some, hp.2.1.1, zg_I e9, Option.bind_some, hx.1, zd_put hp.2.2.1 hl (by omega), Option.bind_some]
  have e9' : (mm_k (mm_sI M 10 tx.2 (nI b)) 9).1 = 6 := e9
  rw [zg_I e9', Option.bind_some, zp_I e9', Option.bind_some, zm_II, if_neg (by omega), hx.1, nI_1]
  refine ⟨_, rfl, zf_tr (zf_I (Or.inr rfl) _ _) (zf_I (Or.inl rfl) _ _), ⟨?_, by show tx.2 + 1 ≤ 700; omega, fun i hi => ?_⟩, fun k hk => ?_⟩
  · rw [zm_II, if_pos ⟨rfl, rfl⟩]; rfl
  · have hi' : i < tx.2 + 1 := hi
    rw [zm_II, if_neg (by omega), zm_II]
    show _ = nI (if i = tx.2 then b else tx.1 i) ∧ (if i = tx.2 then b else tx.1 i) < 256
    by_cases c : i = tx.2
    · rw [if_pos ⟨rfl, c⟩, if_pos c]; exact ⟨rfl, hb⟩
    · rw [if_neg (fun z => c z.2), if_neg c]; exact hx.2.2 i (by omega)
  · rw [zm_II, if_neg (fun z => hk z.2), zm_II, if_neg (by omega)]
theorem zy_appendText (h : zy_C M s) (w : Int32) : zy_Of ["java/lang/IllegalStateException"] (ff_D_appendText 1 w M) M (zv_appendText s w) := by
  have hp := h.1.2.1.2.1
  have hx := h.1.2.2.2.2.2.1
  have he := h.1.2.2.2.2.2.2.1
  have h7 := hx.2.1
  have e9 : (mm_k M 9).1 = 6 := by rw [hp.1]
  have tl : ∀ {N : mm_T} {tx : (Nat → Nat) × Nat}, zy_p N → zy_x N tx → ff_S_textLength 9 N = some (nI tx.2) := fun p x => by
    unfold ff_S_textLength
    rw [zq_gd (by rw [p.1]), zg_I (by rw [p.1]), Option.bind_some, x.1]
  unfold ff_D_appendText zv_appendText
  rw [zq_gd (zc_e1 h.2), zg_R (zc_e1 h.2), Option.bind_some, h.2.1.2.2.2.1, tl hp hx, Option.bind_some, show (4 : Int32) = nI 4 from rfl, nI_add]
  by_cases c : (zy_t s).2 + 4 ≤ 700
  · rw [if_pos (show nI ((zy_t s).2 + 4) ≤ (700 : Int32) from nI_le (b := 700) c (by omega)), if_pos c]
    -- four times
    have step : ∀ fu (sh : Nat) (N : mm_T) (tx : (Nat → Nat) × Nat), sh ≤ 24 → zf_F M N (fun a => a = 9 ∨ a = 10) → zy_x N tx → (∀ k, k ≠ 1 → mm_I N 9 k = mm_I M 9 k) → tx.2 < 700 → ∃ N', zf_F M N' (fun a => a = 9 ∨ a = 10) ∧ zy_x N' (zT_add tx (zT_b w sh)) ∧ (∀ k, k ≠ 1 → mm_I N' 9 k = mm_I M 9 k) ∧ ∀ k0 : mm_T → Option ((Int32 ⊕ String) × mm_T), lf_D_appendText_28 k0 1 w (fu + 1) (nI sh) N = lf_D_appendText_28 k0 1 w fu (nI sh + (-8)) N' := by
      intro fu sh N tx hs f x k9 hl
      have pN := hp.keep f
      have qN : (mm_k N 1).1 = 10 := by rw [zf_k f]; exact zc_e1 h.2
      have rN : mm_R N 1 2 = 9 := by rw [zf_R f]; exact h.2.1.2.2.2.1
      obtain ⟨N', e, f', x', k'⟩ := zT_addC pN x (zT_b_lt w sh) hl
      refine ⟨N', zf_tr f f', x', fun k hk => (k' k hk).trans (k9 k hk), fun k0 => ?_⟩
      show lb_D_appendText_28 k0 1 w (lf_D_appendText_28 k0 1 w fu) (nI sh) N = _
      unfold lb_D_appendText_28
      rw [if_neg (nI_pos (by omega)), zg_R qN, Option.bind_some, rN, zT_u, e, Option.bind_some, Option.bind_some]
    obtain ⟨M1, f1, x1, k1, s1⟩ := step 999999 24 M (zy_t s) (by omega) (zf_rfl _ _) hx (fun _ _ => rfl) (by omega)
    obtain ⟨M2, f2, x2, k2, s2⟩ := step 999998 16 M1 _ (by omega) f1 x1 k1 (by show (zy_t s).2 + 1 < 700; omega)
    obtain ⟨M3, f3, x3, k3, s3⟩ := step 999997 8 M2 _ (by omega) f2 x2 k2 (by show (zy_t s).2 + 1 + 1 < 700; omega)
    obtain ⟨M4, f4, x4, k4, s4⟩ := step 999996 0 M3 _ (by omega) f3 x3 k3 (by show (zy_t s).2 + 1 + 1 + 1 < 700; omega)
    rw [zs_fuel, show (24 : Int32) = nI 24 from rfl, s1, show nI 24 + (-8) = nI 16 by decide, s2, show nI 16 + (-8) = nI 8 by decide, s3, show nI 8 + (-8) = nI 0 by decide, s4]
    have fA : zf_F M M4 zy_Ap := zf_mono f4 (fun a z => by unfold zy_Ap; omega)
    have C4 : zy_C M4 (zy_txt s (zT_app (zy_t s) w)) := h.parser fA x4 ⟨(k4 2 (by omega)).trans he.1, (k4 3 (by omega)).trans he.2⟩
    show zy_O (lb_D_appendText_28 _ 1 w (lf_D_appendText_28 _ 1 w 999995) (nI 0 + (-8)) M4) M _ _
    unfold lb_D_appendText_28
    rw [if_pos (by decide)]
    show zy_O ((gf_R M4 1 10 2).bind _) M _ _
    rw [zg_R (zc_e1 C4.2), Option.bind_some, C4.2.1.2.2.2.1, tl C4.1.2.1.2.1 x4, Option.bind_some]
    exact ⟨M4, rfl, zy_Ywk (zy_ApY fA) (by omega) (by omega) (fun a _ z => z), C4⟩
  · rw [if_neg (show ¬ nI ((zy_t s).2 + 4) ≤ (700 : Int32) from nI_ge (a := 700) (by omega) (by omega)), if_neg c]
    exact zy_thrown h rfl
theorem zy_truncateText (h : zy_C M s) (a : Int32) : zy_Of ["java/lang/IllegalArgumentException"] (ff_D_truncateText 1 a M) M (zv_truncateText s a) := by
  have hp := h.1.2.1.2.1
  have hx := h.1.2.2.2.2.2.1
  have he := h.1.2.2.2.2.2.2.1
  have h7 := hx.2.1
  have e9 : (mm_k M 9).1 = 6 := by rw [hp.1]
  have tl : ff_S_textLength 9 M = some (nI (zy_t s).2) := by
    unfold ff_S_textLength
    rw [zq_gd e9, zg_I e9, Option.bind_some, hx.1]
  unfold ff_D_truncateText zv_truncateText
  rw [zq_gd (zc_e1 h.2), zq_jp]
  by_cases c : a < 0
  · rw [if_pos c, if_neg (fun q => by have := zi_neg.mp c; have := q.1; omega)]
    exact zy_thrown h rfl
  · have c0 : 0 ≤ a.toInt := by rw [zi_neg] at c; omega
    rw [if_neg c, zg_R (zc_e1 h.2), Option.bind_some, h.2.1.2.2.2.1, tl, Option.bind_some]
    by_cases d : a ≤ nI (zy_t s).2
    · have dn := (zi_len (by omega) c).mp d
      have cA : zi_A ((zy_t s).2 + 1) a := ⟨c0, by omega⟩
      obtain ⟨hj, ej⟩ := zi_An cA
      have ecl : ff_S_cutBuffer 9 a M = some (mm_sI M 9 1 a) := by
        unfold ff_S_cutBuffer
        rw [zq_gd e9, zp_I e9, Option.bind_some]
      rw [if_pos d, if_pos cA, Option.bind_some, ecl, Option.bind_some]
      have fA : zf_F M (mm_sI M 9 1 a) zy_Ap := zf_I (by unfold zy_Ap; omega) _ _
      have C : zy_C (mm_sI M 9 1 a) (zy_txt s ((zy_t s).1, zi_n a)) := by
        refine h.parser fA ⟨?_, by show zi_n a ≤ 700; omega, fun i hi => ?_⟩ ⟨?_, ?_⟩
        · rw [zm_II, if_pos ⟨rfl, rfl⟩]; exact ej
        · have hi' : i < zi_n a := hi
          rw [zm_II, if_neg (by omega)]
          exact hx.2.2 i (by omega)
        · rw [zm_II, if_neg (by omega)]; exact he.1
        · rw [zm_II, if_neg (by omega)]; exact he.2
      exact ⟨_, rfl, zy_Ywk (zy_ApY fA) (by omega) (by omega) (fun a _ z => z), C⟩
    · rw [if_neg d, if_neg (fun q => d ((zi_len (by omega) c).mpr (by have := q.2; omega)))]
      exact zy_thrown h rfl
theorem zy_errorCode (h : zy_C M s) : ff_D_errorCode 1 M = some (nI (zy_c s).1) := by
  have hp := h.1.2.1.2.1
  have he := h.1.2.2.2.2.2.2.1
  unfold ff_D_errorCode
  rw [zq_gd (zc_e1 h.2), zg_R (zc_e1 h.2), Option.bind_some, h.2.1.2.2.2.1, zg_I (by rw [hp.1]), Option.bind_some, he.1]
theorem zy_errorPosition (h : zy_C M s) : ff_D_errorPosition 1 M = some (zy_c s).2 := by
  have hp := h.1.2.1.2.1
  have he := h.1.2.2.2.2.2.2.1
  unfold ff_D_errorPosition
  rw [zq_gd (zc_e1 h.2), zg_R (zc_e1 h.2), Option.bind_some, h.2.1.2.2.2.1, zg_I (by rw [hp.1]), Option.bind_some, he.2]
/-! the reference -/
def zy_Aq (a : Nat) : Prop := a = 52 ∨ a = 53 ∨ a = 60 ∨ a = 61
theorem zy_M.parser {M' : mm_T} (h : zy_M M s) (f : zf_F M M' zy_Aq) (h52 : ∀ k, k = 2 ∨ k = 3 ∨ k = 24 → mm_I M' 52 k = mm_I M 52 k) (h53 : ∀ k, k < 2358 → mm_I M' 53 k = mm_I M 53 k) {tx : (Nat → Nat) × Nat} {e : Nat × Int32} (hx : zt_tx M' tx) (he : zt_er M' e) : zy_M M' (zy_prs s tx e) := by
  obtain ⟨h63, hS, hK, hN, _, _, ho⟩ := h
  have k6 := hK.1
  exact ⟨by rw [f.1]; exact h63, ⟨hS.1.keep f, (h52 2 (by omega)).trans hS.2.1, hS.2.2.1, zt_H.slot hS.2.2.2.1 hS.2.2.2.2 (fun k hk => h53 _ (by omega)), hS.2.2.2.2⟩, ⟨hK.1, (h52 3 (by omega)).trans hK.2.1, fun k hk => ⟨zt_H.slot (hK.2.2 k hk).1 (hK.2.2 k hk).2 (fun x hx => h53 _ (by have : (zy_u s).2 - k ≤ 6 := (by omega); show 262 * ((zy_u s).2 - k) + x < 2358; omega)), (hK.2.2 k hk).2⟩⟩, ⟨(zf_i f (by unfold zy_Aq; omega) 0).trans hN.1, (zf_i f (by unfold zy_Aq; omega) 1).trans hN.2.1, fun Q e => ⟨zt_H.slot (hN.2.2.1 Q e).1 (hN.2.2.1 Q e).2 (fun k hk => h53 _ (by omega)), (hN.2.2.1 Q e).2⟩, fun Q e => ⟨zt_H.slot (hN.2.2.2 Q e).1 (hN.2.2.2 Q e).2 (fun k hk => h53 _ (by omega)), (hN.2.2.2 Q e).2⟩⟩, hx, he, (h52 24 (by omega)).trans ho.1, ho.2.1, fun i hi => (zf_i f (by unfold zy_Aq; omega) i).trans (ho.2.2 i hi)⟩
theorem zy_AqX {M' : mm_T} (f : zf_F M M' zy_Aq) : zf_X M M' zy_Ar 100 2000 := zu_wk (zu_F f) (by omega) (by omega) (fun a z => by unfold zy_Aq at z; unfold zy_Ar; omega)
theorem zt_r60 {M : mm_T} (h : zt_R M) : mm_R M 52 14 = 60 ∧ mm_k M 60 = (20, 700) := ⟨h.2.1.2.2.2.2.2.2.2.1, h.2.2.2.2.2.2.2.2.2.1⟩
theorem zy_appendTextM (h : zy_M M s) (w : Int32) : zy_Om (ff_M_appendText 52 w M) M (zv_appendText s w) := by
  have h0 := h.thr 0
  have t0 : mm_I (mm_sI M 52 4 0) 52 4 = nI 0 := by rw [zm_II, if_pos ⟨rfl, rfl⟩]; rfl
  unfold ff_M_appendText zv_appendText
  rw [zq_gd (zt_e52 h.2.1), zp_I (zt_e52 h.2.1), Option.bind_some]
  refine zy_OmI (zy_f4 M 0) (fun a z => by unfold zy_Ar; omega) ?_
  generalize mm_sI M 52 4 0 = M0 at h0 t0 ⊢
  have hx := h0.2.2.2.2.1
  have he := h0.2.2.2.2.2.1
  have hR := h0.2.1.1
  have h7 := hx.2.1
  rw [zg_I (zt_e52 h0.2.1), Option.bind_some, hx.1, show (4 : Int32) = nI 4 from rfl, nI_add]
  by_cases c : (zy_t s).2 + 4 ≤ 700
  · rw [if_pos (show nI ((zy_t s).2 + 4) ≤ (700 : Int32) from nI_le (b := 700) c (by omega)), if_pos c]
    have step : ∀ fu (sh : Nat) (N : mm_T) (tx : (Nat → Nat) × Nat), sh ≤ 24 → zf_F M0 N (fun a => a = 52 ∨ a = 60) → zt_tx N tx → (∀ k, k ≠ 15 → mm_I N 52 k = mm_I M0 52 k) → tx.2 < 700 → ∃ N', zf_F M0 N' (fun a => a = 52 ∨ a = 60) ∧ zt_tx N' (zT_add tx (zT_b w sh)) ∧ (∀ k, k ≠ 15 → mm_I N' 52 k = mm_I M0 52 k) ∧ ∀ k0 : mm_T → Option (Int32 × mm_T), lf_M_appendText_27 k0 52 w (fu + 1) (nI sh) N = lf_M_appendText_27 k0 52 w fu (nI sh + (-8)) N' := by
      intro fu sh N tx hs f x k9 hl
      have RN := hR.keep f
      have eN : (mm_k N 52).1 = 11 := by rw [RN.1]
      have eN' : (mm_k (mm_sI N 60 tx.2 (nI (zT_b w sh))) 52).1 = 11 := eN
      have fN : zf_F N (mm_sI (mm_sI N 60 tx.2 (nI (zT_b w sh))) 52 15 (nI (tx.2 + 1))) (fun a => a = 52 ∨ a = 60) := zf_tr (zf_I (Or.inr rfl) _ _) (zf_I (Or.inl rfl) _ _)
      refine ⟨mm_sI (mm_sI N 60 tx.2 (nI (zT_b w sh))) 52 15 (nI (tx.2 + 1)), zf_tr f fN, ⟨?_, by show tx.2 + 1 ≤ 700; omega, fun i hi => ?_⟩, fun k hk => ?_, fun k0 => ?_⟩
      · rw [zm_II, if_pos ⟨rfl, rfl⟩]; rfl
      · have hi' : i < tx.2 + 1 := hi
        rw [zm_II, if_neg (by omega), zm_II]
        show _ = nI (if i = tx.2 then zT_b w sh else tx.1 i) ∧ (if i = tx.2 then zT_b w sh else tx.1 i) < 256
        by_cases c : i = tx.2
        · rw [if_pos ⟨rfl, c⟩, if_pos c]; exact ⟨rfl, zT_b_lt w sh⟩
        · rw [if_neg (fun z => c z.2), if_neg c]; exact x.2.2 i (by omega)
      · rw [zm_II, if_neg (fun z => hk z.2), zm_II, if_neg (by omega)]; exact k9 k hk
      · show lb_M_appendText_27 k0 52 w (lf_M_appendText_27 k0 52 w fu) (nI sh) N = _
        unfold lb_M_appendText_27
        rw [if_neg (nI_pos (by omega)), zg_R eN, Option.bind_some, (zt_r60 RN).1, zg_I eN, Option.bind_some, x.1, zT_s w hs, zw_I (zt_r60 RN).2 hl (by omega), Option.bind_some, zg_I eN', Option.bind_some, zp_I eN', Option.bind_some, Option.bind_some, zm_II, if_neg (by omega), x.1, nI_1]
    obtain ⟨M1, f1, x1, k1, s1⟩ := step 999999 24 M0 (zy_t s) (by omega) (zf_rfl _ _) hx (fun _ _ => rfl) (by omega)
    obtain ⟨M2, f2, x2, k2, s2⟩ := step 999998 16 M1 _ (by omega) f1 x1 k1 (by show (zy_t s).2 + 1 < 700; omega)
    obtain ⟨M3, f3, x3, k3, s3⟩ := step 999997 8 M2 _ (by omega) f2 x2 k2 (by show (zy_t s).2 + 1 + 1 < 700; omega)
    obtain ⟨M4, f4, x4, k4, s4⟩ := step 999996 0 M3 _ (by omega) f3 x3 k3 (by show (zy_t s).2 + 1 + 1 + 1 < 700; omega)
    rw [zs_fuel, show (24 : Int32) = nI 24 from rfl, s1, show nI 24 + (-8) = nI 16 by decide, s2, show nI 16 + (-8) = nI 8 by decide, s3, show nI 8 + (-8) = nI 0 by decide, s4]
    have fA : zf_F M0 M4 zy_Aq := zf_mono f4 (fun a z => by unfold zy_Aq; omega)
    have C4 : zy_M M4 (zy_txt s (zT_app (zy_t s) w)) := h0.parser fA (fun k hk => k4 k (by omega)) (fun k _ => zf_i f4 (by omega) k) x4 ⟨(k4 16 (by omega)).trans he.1, (k4 17 (by omega)).trans he.2⟩
    show zy_Om (lb_M_appendText_27 _ 52 w (lf_M_appendText_27 _ 52 w 999995) (nI 0 + (-8)) M4) M0 _
    unfold lb_M_appendText_27
    rw [if_pos (by decide)]
    show zy_Om ((gf_I M4 52 11 15).bind _) M0 _
    rw [zg_I (zt_e52 C4.2.1), Option.bind_some, x4.1]
    exact ⟨_, M4, rfl, zy_AqX fA, C4, (k4 4 (by omega)).trans t0, fun _ => rfl⟩
  · rw [if_neg (show ¬ nI ((zy_t s).2 + 4) ≤ (700 : Int32) from nI_ge (a := 700) (by omega) (by omega)), if_neg c, zp_I (zt_e52 h0.2.1), Option.bind_some]
    exact zy_thrM h0 (k := 1) (by omega)
theorem zy_truncateTextM (h : zy_M M s) (a : Int32) : zy_Om (ff_M_truncateText 52 a M) M (zv_truncateText s a) := by
  have h0 := h.thr 0
  have t0 : mm_I (mm_sI M 52 4 0) 52 4 = nI 0 := by rw [zm_II, if_pos ⟨rfl, rfl⟩]; rfl
  unfold ff_M_truncateText zv_truncateText
  rw [zq_gd (zt_e52 h.2.1), zp_I (zt_e52 h.2.1), Option.bind_some, zq_jp]
  refine zy_OmI (zy_f4 M 0) (fun a z => by unfold zy_Ar; omega) ?_
  generalize mm_sI M 52 4 0 = M0 at h0 t0 ⊢
  have hx := h0.2.2.2.2.1
  have he := h0.2.2.2.2.2.1
  have h7 := hx.2.1
  have bad : zy_Om ((pf_I M0 52 11 4 (1 : Int32)).bind fun M2 => some ((0 : Int32), M2)) M0 ((1, 0), s) := by
    rw [zp_I (zt_e52 h0.2.1), Option.bind_some]
    exact zy_thrM h0 (k := 1) (by omega)
  by_cases c : a < 0
  · rw [if_pos c, if_neg (fun q => by have := zi_neg.mp c; have := q.1; omega)]
    exact bad
  · have c0 : 0 ≤ a.toInt := by rw [zi_neg] at c; omega
    rw [if_neg c, zg_I (zt_e52 h0.2.1), Option.bind_some, hx.1]
    by_cases d : a ≤ nI (zy_t s).2
    · have dn := (zi_len (by omega) c).mp d
      have cA : zi_A ((zy_t s).2 + 1) a := ⟨c0, by omega⟩
      obtain ⟨hj, ej⟩ := zi_An cA
      rw [if_pos d, if_pos cA, zp_I (zt_e52 h0.2.1), Option.bind_some]
      have fA : zf_F M0 (mm_sI M0 52 15 a) zy_Aq := zf_I (by unfold zy_Aq; omega) _ _
      refine ⟨a, _, rfl, zy_AqX fA, h0.parser fA (fun k hk => by rw [zm_II, if_neg (by omega)]) (fun k _ => by rw [zm_II, if_neg (by omega)]) ⟨?_, by show zi_n a ≤ 700; omega, fun i hi => ?_⟩ ⟨?_, ?_⟩, ?_, fun _ => rfl⟩
      · rw [zm_II, if_pos ⟨rfl, rfl⟩]; exact ej
      · have hi' : i < zi_n a := hi
        rw [zm_II, if_neg (by omega)]
        exact hx.2.2 i (by omega)
      · rw [zm_II, if_neg (by omega)]; exact he.1
      · rw [zm_II, if_neg (by omega)]; exact he.2
      · rw [zm_II, if_neg (by omega)]; exact t0
    · rw [if_neg d, if_neg (fun q => d ((zi_len (by omega) c).mpr (by have := q.2; omega)))]
      exact bad
theorem zy_errorCodeM (h : zy_M M s) : zy_Om (ff_M_errorCode 52 M) M ((0, nI (zy_c s).1), s) := by
  have h0 := h.thr 0
  unfold ff_M_errorCode
  rw [zq_gd (zt_e52 h.2.1), zp_I (zt_e52 h.2.1), Option.bind_some, zg_I (zt_e52 h0.2.1), Option.bind_some, h0.2.2.2.2.2.1.1]
  exact ⟨_, _, rfl, zu_wk (zu_F (zf_mono (zy_f4 M 0) (fun a z => by unfold zy_Ar; omega))) (by omega) (by omega) (fun a z => z), h0, by rw [zm_II, if_pos ⟨rfl, rfl⟩]; rfl, fun _ => rfl⟩
theorem zy_errorPositionM (h : zy_M M s) : zy_Om (ff_M_errorPosition 52 M) M ((0, (zy_c s).2), s) := by
  have h0 := h.thr 0
  unfold ff_M_errorPosition
  rw [zq_gd (zt_e52 h.2.1), zp_I (zt_e52 h.2.1), Option.bind_some, zg_I (zt_e52 h0.2.1), Option.bind_some, h0.2.2.2.2.2.1.2]
  exact ⟨_, _, rfl, zu_wk (zu_F (zf_mono (zy_f4 M 0) (fun a z => by unfold zy_Ar; omega))) (by omega) (by omega) (fun a z => z), h0, by rw [zm_II, if_pos ⟨rfl, rfl⟩]; rfl, fun _ => rfl⟩
end ZYC1
