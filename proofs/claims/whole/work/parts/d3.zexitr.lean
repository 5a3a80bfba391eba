/-! ===== the reference's exits ===== -/
section ZRX
variable {M0 M : mm_T} {tx : (Nat → Nat) × Nat} {Q : zp_T} {F : Nat → Nat × Nat} {m e : Nat}
def zR_3 (M0 : mm_T) (tx : (Nat → Nat) × Nat) (m : Nat) (r : (zp_T × (Nat → Nat × Nat) × Nat) ⊕ zT_R) (M' : mm_T) : Prop := match r with
  | .inl a => zR_S M0 M' tx a.1 a.2.1 m a.2.2
  | .inr a => zR_E M0 M' tx a
theorem zR_r61 {M : mm_T} (h : zt_R M) : mm_R M 52 22 = 61 ∧ mm_k M 61 = (20, 24) := ⟨h.2.1.2.2.2.2.2.2.2.2.1, h.2.2.2.2.2.2.2.2.2.2.1⟩
/-- a position above the closed blocks is told -/
theorem zR_S8 (h : zR_S M0 M tx Q F m e) {i : Nat} (hi : 2 * m ≤ i) (v : Int32) : zR_S M0 (mm_sI M 61 i v) tx Q F m e := by
  have f : zf_F M (mm_sI M 61 i v) (fun x => x = 61) := zf_I1 _ _ _ _
  refine ⟨zR_G_6 h.1 i v, zR_keepA h.2.1 f (by omega) (by omega), (zf_i f (by omega) 2).trans h.2.2.1, h.2.2.2.1.keep (fun k => zf_i f (by omega) k), fun b hb => ?_, h.2.2.2.2.2⟩
  rw [zm_II, if_neg (by omega), zm_II, if_neg (by omega)]
  exact h.2.2.2.2.1 b hb
theorem zR_wayX (hR : zt_R M) (h2 : mm_I M 52 2 = nI 9) {s : Int32} (h19 : mm_I M 52 19 = s) (hn : mm_I M 53 (262 * 9 + 0) = nI (m + 1)) (m12 : m < 12) {k : Nat} (hk : k < 2) : ff_M_readsWay 52 (nI k) M = bd_2 (ff_M_reads 52 (nI 11) (mm_sI M 61 (2 * m + k) s)) fun x4 M2 => some (x4, M2) := by
  have e52 := zT_e52 hR
  have g0 : ff_M_get 52 0 M = some (nI (m + 1)) := by
    have := zt_get hR h2 (by omega) (w := 0) (by omega)
    rw [hn] at this
    exact this
  have es : nI (m + 1) - (1 : Int32) = nI m := zi_sub (b := 1) (by omega)
  unfold ff_M_readsWay
  rw [zq_gd e52, zg_R e52, Option.bind_some, (zR_r61 hR).1, g0, Option.bind_some, zg_I e52, Option.bind_some, h19, es, show (2 : Int32) = nI 2 from rfl, zi_mul, nI_add, zw_I (zR_r61 hR).2 (by omega) (by omega), Option.bind_some]
  rfl
theorem zR_way (h : zR_S M0 M tx Q F m e) (hm : m + 1 = zp_nb Q) {k : Nat} (hk : k < 2) : zR_S M0 (mm_sI M 61 (2 * m + k) (nI (zT_s' tx e))) tx Q F m e ∧ zR_V (ff_M_readsWay 52 (nI k) M) (mm_sI M 61 (2 * m + k) (nI (zT_s' tx e))) tx (zT_num tx 11 e) := by
  have h12 := h.2.2.2.2.2.1
  have S8 := zR_S8 h (i := 2 * m + k) (by omega) (nI (zT_s' tx e))
  refine ⟨S8, ?_⟩
  rw [zR_wayX h.2.1.1 h.2.2.1 h.2.1.2.2.1.2.2.1 (by rw [hm]; exact h.2.2.2.1.1) (by omega) hk]
  obtain ⟨v, M', e1, g⟩ := zR_num S8.2.1 (m := 11) (by omega)
  rw [e1, zR_b2]
  exact ⟨v, M', rfl, g⟩
/-- an error is kept, in the midst of an exit -/
def zR_X (M0 M : mm_T) (tx : (Nat → Nat) × Nat) (a : zT_R) (m : Nat) : Prop := zR_E M0 M tx a ∧ mm_I M 53 (262 * 9 + 0) = nI (m + 1)
theorem zR_S.x (h : zR_S M0 M tx Q F m e) (hm : m + 1 = zp_nb Q) {M' : mm_T} {a : zT_R} (f : zR_F M M') (g : zR M' tx (.inr a)) : zR_X M0 M' tx a m := ⟨h.er f g, by rw [zf_i f.1 (by omega), hm]; exact h.2.2.2.1.1⟩
theorem zR_wayE {a : zT_R} (h : zR_X M0 M tx a m) (m12 : m < 12) {k : Nat} (hk : k < 2) : ∃ M', ff_M_readsWay 52 (nI k) M = some (0, M') ∧ zR_X M0 M' tx a m := by
  have f : ∀ s, zf_F M (mm_sI M 61 (2 * m + k) s) (fun x => x = 61) := fun s => zf_I1 _ _ _ _
  have g : zR (mm_sI M 61 (2 * m + k) (mm_I M 52 19)) tx (.inr a) := zR_keepA h.1.2.1 (f _) (by omega) (by omega)
  rw [zR_wayX h.1.2.1.1 h.1.2.2 rfl h.2 m12 hk, zR_numE g, zR_b2]
  exact ⟨_, rfl, ⟨zR_G_6 h.1.1 _ _, g, (zf_i (f _) (by omega) 2).trans h.1.2.2⟩, (zf_i (f _) (by omega) _).trans h.2⟩
theorem zR_tailXE {a : zT_R} (h : zR M tx (.inr a)) (x1 x2 x3 x4 x5 : Int32) : ((ff_M_endsLine 52 M).bind fun M6 => (gf_I M6 52 11 16).bind fun x10 => if x10 = 0 then ((ff_M_exits 52 x1 x2 x3 x4 x5 M6).bind fun M7 => some M7) else (some M6)) = some M := by
  rw [zR_endsE h, Option.bind_some, zg_I (zR_e h), Option.bind_some, if_neg (zR_ne h)]
theorem zR_tailX (h : zR_S M0 M tx Q F m e) (hm : m + 1 = zp_nb Q) {q : Nat × Nat × Nat × Nat} (hq : q.1 ≤ 2 ∧ (1 ≤ q.1 → q.2.2.1 ≤ 11) ∧ (q.1 = 2 → q.2.1 < 8 ∧ q.2.2.2 ≤ 11)) {u : Nat × Nat} (g1 : 1 ≤ q.1 → mm_I M 61 (2 * m + 0) = nI u.1) (g2 : q.1 = 2 → mm_I M 61 (2 * m + 1) = nI u.2) : ∃ M', ((ff_M_endsLine 52 M).bind fun M6 => (gf_I M6 52 11 16).bind fun x10 => if x10 = 0 then ((ff_M_exits 52 (nI m) (nI q.1) (nI q.2.1) (nI q.2.2.1) (nI q.2.2.2) M6).bind fun M7 => some M7) else (some M6)) = some M' ∧ zR_3 M0 tx (m + 1) (zT_bind (zT_sem tx e) fun e' => .inl (zp_setx Q (zp_nb Q - 1) q, (fun b => if b = zp_nb Q - 1 then u else F b), e')) M' := by
  obtain ⟨M1, e1, f1, t1⟩ := zR_ends h.2.1
  rw [e1, Option.bind_some, zg_I (zR_e t1), Option.bind_some]
  cases es : zT_sem tx e with
  | inl e' =>
    rw [es] at t1
    have S1 := h.k f1 t1
    obtain ⟨M2, e2, f2, h2⟩ := zR_close S1.w S1.2.2.2.1 S1.2.2.2.2.2 hm q
    rw [if_pos t1.2.2.2.1, e2, Option.bind_some]
    refine ⟨M2, rfl, S1.p f2 h2 (fun b hb => ?_) (zQ_setx_V S1.2.2.2.2.2 hm hq)⟩
    rw [zf_i f2.1 (by omega), zf_i f2.1 (by omega)]
    have ew : zp_w (zp_setx Q (zp_nb Q - 1) q) b = (if b = zp_nb Q - 1 then q else Q.2.2.2.1 b).1 := rfl
    rw [ew]
    by_cases c : b = zp_nb Q - 1
    · rw [if_pos c, show b = m by omega]
      simp only [show m = zp_nb Q - 1 by omega, if_true]
      rw [show zp_nb Q - 1 = m by omega, zf_i f1.1 (by omega), zf_i f1.1 (by omega)]
      exact ⟨g1, g2⟩
    · rw [if_neg c]
      simp only [if_neg c]
      exact S1.2.2.2.2.1 b (by omega)
  | inr a =>
    rw [es] at t1
    rw [if_neg (zR_ne t1)]
    exact ⟨M1, rfl, h.er f1 t1⟩
theorem zR_exit (h : zR_S M0 M tx Q F m e) (hm : m + 1 = zp_nb Q) : ∃ M', ff_M_readsExit 52 M = some M' ∧ zR_3 M0 tx (m + 1) (zT_exit tx Q F e) M' := by
  have hV := h.2.2.2.2.2
  have h12 := hV.1
  have m12 : m < 12 := by omega
  have e52 := zR_e h.2.1
  have es : nI (zp_nb Q) - (1 : Int32) = nI m := by
    have := zi_sub (a := zp_nb Q) (b := 1) (by omega)
    rw [show zp_nb Q - 1 = m by omega] at this
    exact this
  obtain ⟨M1, e1, f1, g1⟩ := zR_goes h.2.1
  have S1 := h.k f1 g1
  unfold ff_M_readsExit zT_exit zT_ex
  rw [zq_gd e52, zR_get0 h.w h.2.2.2.1, Option.bind_some, es]
  simp only [zq_jp, zR_word h.2.1 (show 9 < 31 by omega), zR_word h.2.1 (show 10 < 31 by omega), zR_word h.2.1 (show 11 < 31 by omega), Option.bind_some, zb_0, decide_eq_false_iff_not]
  have z02 : ¬ (0 : Int32) = 2 := by decide
  have z12 : ¬ (1 : Int32) = 2 := by decide
  have z10 : ¬ (1 : Int32) = 0 := by decide
  have z20 : ¬ (2 : Int32) = 0 := by decide
  by_cases c9 : zT_W tx e 9
  · simp only [if_neg (show ¬ ¬ zT_W tx e 9 from fun z => z c9), if_pos c9, z02, z10, if_true, if_false, zR_mustT h.2.1, zR_b2, e1, Option.bind_some, zT_bind_l]
    exact zR_tailX S1 hm (q := (0, 0, 0, 0)) (u := (0, 0)) ⟨by show (0 : Nat) ≤ 2; omega, fun z => absurd z (by show ¬ 1 ≤ (0 : Nat); omega), fun z => absurd z (by show ¬ (0 : Nat) = 2; omega)⟩ (fun z => absurd z (by show ¬ 1 ≤ (0 : Nat); omega)) (fun z => absurd z (by show ¬ (0 : Nat) = 2; omega))
  · by_cases c10 : zT_W tx e 10
    · simp only [if_pos c9, if_neg c9, if_neg (show ¬ ¬ zT_W tx e 10 from fun z => z c10), if_pos c10, z12, z10, if_true, if_false, zR_mustT h.2.1, zR_b2, e1, Option.bind_some, zT_bind_l, zT_bind_assoc]
      obtain ⟨S2, hw⟩ := zR_way S1 hm (k := 0) (by omega)
      refine zR_take hw (G := zR_3 M0 tx (m + 1)) (fun a Ma ha fa ga => ?_) (fun a w Ma ha fa ga => ?_)
      · have oa := zT_num_ok S2.2.1.2.2.1.1 ha
        refine zR_tailX (S2.k fa ga) hm (q := (1, 0, a.1, 0)) (u := (zT_s' tx (zT_e tx e), 0)) ⟨by show 1 ≤ 2; omega, fun _ => oa.1, fun z => absurd z (by show ¬ (1 : Nat) = 2; omega)⟩ (fun _ => ?_) (fun z => absurd z (by show ¬ (1 : Nat) = 2; omega))
        rw [zf_i fa.1 (by omega), zm_II, if_pos ⟨rfl, rfl⟩]
      · exact ⟨Ma, zR_tailXE ga _ _ _ _ _, S2.er fa ga⟩
    · by_cases c11 : zT_W tx e 11
      · simp only [if_pos c9, if_neg c9, if_pos c10, if_neg c10, if_neg (show ¬ ¬ zT_W tx e 11 from fun z => z c11), if_pos c11, z20, z10, if_true, if_false, zR_mustT h.2.1, zR_b2, e1, Option.bind_some, zT_bind_l, zT_bind_assoc]
        refine zR_take (zR_var g1) (G := zR_3 M0 tx (m + 1)) (fun a Ma ha fa ga => ?_) (fun a w Ma ha fa ga => ?_)
        · have oa := zT_var_ok S1.2.1.2.2.1.1 ha
          have Sa := S1.k fa ga
          obtain ⟨S2, hw⟩ := zR_way Sa hm (k := 0) (by omega)
          refine zR_take hw (G := zR_3 M0 tx (m + 1)) (fun b Mb hb fb gb => ?_) (fun b w Mb hb fb gb => ?_)
          · have ob := zT_num_ok S2.2.1.2.2.1.1 hb
            have Sb := S2.k fb gb
            obtain ⟨S3, hw3⟩ := zR_way Sb hm (k := 1) (by omega)
            refine zR_take hw3 (G := zR_3 M0 tx (m + 1)) (fun c Mc hc fc gc => ?_) (fun c w Mc hc fc gc => ?_)
            · have oc := zT_num_ok S3.2.1.2.2.1.1 hc
              refine zR_tailX (S3.k fc gc) hm (q := (2, a.1, b.1, c.1)) (u := (zT_s' tx a.2, zT_s' tx b.2)) ⟨Nat.le_refl 2, fun _ => ob.1, fun _ => ⟨oa.1, oc.1⟩⟩ (fun _ => ?_) (fun _ => ?_)
              · rw [zf_i fc.1 (by omega), zm_II, if_neg (by omega), zf_i fb.1 (by omega), zm_II, if_pos ⟨rfl, rfl⟩]
              · rw [zf_i fc.1 (by omega), zm_II, if_pos ⟨rfl, rfl⟩]
            · exact ⟨Mc, zR_tailXE gc _ _ _ _ _, S3.er fc gc⟩
          · obtain ⟨Mc, ec, xc⟩ := zR_wayE (S2.x hm fb gb) m12 (k := 1) (by omega)
            have ec' : ff_M_readsWay 52 1 Mb = some (0, Mc) := ec
            rw [ec', zR_b2]
            exact ⟨Mc, zR_tailXE xc.1.2.1 _ _ _ _ _, xc.1⟩
        · obtain ⟨Mb, eb, xb⟩ := zR_wayE (S1.x hm fa ga) m12 (k := 0) (by omega)
          have eb' : ff_M_readsWay 52 0 Ma = some (0, Mb) := eb
          obtain ⟨Mc, ec, xc⟩ := zR_wayE xb m12 (k := 1) (by omega)
          have ec' : ff_M_readsWay 52 1 Mb = some (0, Mc) := ec
          rw [eb', zR_b2, ec', zR_b2]
          exact ⟨Mc, zR_tailXE xc.1.2.1 _ _ _ _ _, xc.1⟩
      · obtain ⟨M2, e2, f2, g2⟩ := zR_mustF h.2.1 (c := 1) (by omega) (by omega)
        have e2' : ff_M_must 52 0 1 M = some (0, M2) := e2
        simp only [if_pos c9, if_neg c9, if_pos c10, if_neg c10, if_pos c11, if_neg c11, if_true, if_false, e2', zR_b2]
        exact ⟨M2, rfl, h.er f2 g2⟩
end ZRX
