/-! ===== the reference's turns ===== -/
theorem zT_bind_assoc {α β γ : Type} (x : α ⊕ zT_R) (f : α → β ⊕ zT_R) (g : β → γ ⊕ zT_R) : zT_bind (zT_bind x f) g = zT_bind x fun a => zT_bind (f a) g := by cases x <;> rfl
theorem zT_bind_l {α β : Type} (a : α) (f : α → β ⊕ zT_R) : zT_bind (.inl a) f = f a := rfl
theorem zR_b2 {β : Type} (v : Int32) (M : mm_T) (K : Int32 → mm_T → Option β) : bd_2 (some (v, M)) K = K v M := rfl
def zR_G (M0 M : mm_T) : Prop := zf_F M0 M (fun a => a = 52 ∨ a = 53 ∨ a = 61) ∧ (∀ k, k < 16 ∨ 21 < k → mm_I M 52 k = mm_I M0 52 k) ∧ ∀ k, k < 2358 → mm_I M 53 k = mm_I M0 53 k
theorem zR_G_rfl (M : mm_T) : zR_G M M := ⟨zf_rfl _ _, fun _ _ => rfl, fun _ _ => rfl⟩
theorem zR_G_R {M0 M M' : mm_T} (h : zR_G M0 M) (f : zR_F M M') : zR_G M0 M' := ⟨zf_tr h.1 (zf_mono f.1 (fun a z => Or.inl z)), fun k hk => (f.2 k hk).trans (h.2.1 k hk), fun k hk => (zf_i f.1 (by omega) k).trans (h.2.2 k hk)⟩
theorem zR_G_E {M0 M M' : mm_T} (h : zR_G M0 M) (f : zt_E 9 M M') : zR_G M0 M' := ⟨zf_tr h.1 (zf_mono f.1 (fun a z => Or.inr (Or.inl z))), fun k hk => (zf_i f.1 (by omega) k).trans (h.2.1 k hk), fun k hk => (f.2 k (by omega)).trans (h.2.2 k hk)⟩
theorem zR_G_6 {M0 M : mm_T} (h : zR_G M0 M) (k : Nat) (v : Int32) : zR_G M0 (mm_sI M 61 k v) := ⟨zf_tr h.1 (zf_I (Or.inr (Or.inr rfl)) _ _), fun j hj => by rw [zm_II, if_neg (by omega)]; exact h.2.1 j hj, fun j hj => by rw [zm_II, if_neg (by omega)]; exact h.2.2 j hj⟩
def zR_Td (M : mm_T) (F : Nat → Nat × Nat) (Q : zp_T) (m : Nat) : Prop := ∀ b, b < m → (1 ≤ zp_w Q b → mm_I M 61 (2 * b + 0) = nI (F b).1) ∧ (zp_w Q b = 2 → mm_I M 61 (2 * b + 1) = nI (F b).2)
def zR_S (M0 M : mm_T) (tx : (Nat → Nat) × Nat) (Q : zp_T) (F : Nat → Nat × Nat) (m e : Nat) : Prop := zR_G M0 M ∧ zR M tx (.inl e) ∧ mm_I M 52 2 = nI 9 ∧ zR_H M Q m ∧ zR_Td M F Q m ∧ zQ_V Q m
def zR_E (M0 M : mm_T) (tx : (Nat → Nat) × Nat) (a : zT_R) : Prop := zR_G M0 M ∧ zR M tx (.inr a) ∧ mm_I M 52 2 = nI 9
theorem zR_keepA {M M' : mm_T} {tx : (Nat → Nat) × Nat} {r : Nat ⊕ zT_R} (h : zR M tx r) {A : Nat → Prop} (f : zf_F M M' A) (h52 : ¬ A 52) (h60 : ¬ A 60) : zR M' tx r := by
  obtain ⟨hR, hx, h⟩ := h
  refine ⟨hR.keep f, ⟨(zf_i f h52 15).trans hx.1, hx.2.1, fun i hi => ⟨(zf_i f h60 i).trans (hx.2.2 i hi).1, (hx.2.2 i hi).2⟩⟩, ?_⟩
  have tk : ∀ {e}, zT_M M tx e → zT_M M' tx e := fun t => ⟨t.1, (zf_i f h52 20).trans t.2.1, (zf_i f h52 19).trans t.2.2.1, (zf_i f h52 18).trans t.2.2.2.1, fun z => (zf_i f h52 21).trans (t.2.2.2.2 z)⟩
  cases r with
  | inl e => exact ⟨tk h.1, (zf_i f h52 16).trans h.2.1, (zf_i f h52 17).trans h.2.2⟩
  | inr a => exact ⟨h.1.imp fun e t => tk t, (zf_i f h52 16).trans h.2.1, (zf_i f h52 17).trans h.2.2.1, h.2.2.2⟩
section ZRS
variable {M0 M : mm_T} {tx : (Nat → Nat) × Nat} {Q : zp_T} {F : Nat → Nat × Nat} {m e : Nat}
theorem zR_S.w (h : zR_S M0 M tx Q F m e) : zt_W M 9 := ⟨h.2.1.1, h.2.2.1, Nat.le_refl _⟩
theorem zR_S.k (h : zR_S M0 M tx Q F m e) {M' : mm_T} {e' : Nat} (f : zR_F M M') (g : zR M' tx (.inl e')) : zR_S M0 M' tx Q F m e' := ⟨zR_G_R h.1 f, g, (f.2 2 (by omega)).trans h.2.2.1, h.2.2.2.1.keep (fun k => zf_i f.1 (by omega) k), fun b hb => by rw [zf_i f.1 (by omega), zf_i f.1 (by omega)]; exact h.2.2.2.2.1 b hb, h.2.2.2.2.2⟩
theorem zR_S.er (h : zR_S M0 M tx Q F m e) {M' : mm_T} {a : zT_R} (f : zR_F M M') (g : zR M' tx (.inr a)) : zR_E M0 M' tx a := ⟨zR_G_R h.1 f, g, (f.2 2 (by omega)).trans h.2.2.1⟩
/-- the program changes -/
theorem zR_S.p (h : zR_S M0 M tx Q F m e) {M' : mm_T} (f : zt_E 9 M M') {Q' : zp_T} {F' : Nat → Nat × Nat} {m' : Nat} (hH : zR_H M' Q' m') (hT : zR_Td M' F' Q' m') (hV : zQ_V Q' m') : zR_S M0 M' tx Q' F' m' e := ⟨zR_G_E h.1 f, zR_keepA h.2.1 f.1 (by omega) (by omega), (zf_i f.1 (by omega) 2).trans h.2.2.1, hH, hT, hV⟩
theorem zR_Td.k {M' : mm_T} {Q' : zp_T} (h : zR_Td M F Q m) (f : zf_F M M' (fun a => a = 53)) (hw : ∀ b, b < m → zp_w Q' b = zp_w Q b) : zR_Td M' F Q' m := fun b hb => by
  rw [zf_i f (by omega), zf_i f (by omega), hw b hb]
  exact h b hb
def zR_1 (M0 : mm_T) (tx : (Nat → Nat) × Nat) (F : Nat → Nat × Nat) (m : Nat) (r : (zp_T × Nat) ⊕ zT_R) (M' : mm_T) : Prop := match r with
  | .inl a => zR_S M0 M' tx a.1 F m a.2
  | .inr a => zR_E M0 M' tx a
theorem zR_take {β : Type} {X : Option (Int32 × mm_T)} {q : (Nat × Nat) ⊕ zT_R} (hX : zR_V X M tx q) {K : Int32 → mm_T → Option mm_T} {k : Nat × Nat → β ⊕ zT_R} {G : β ⊕ zT_R → mm_T → Prop} (hok : ∀ a M', q = .inl a → zR_F M M' → zR M' tx (.inl a.2) → ∃ M2, K (nI a.1) M' = some M2 ∧ G (k a) M2) (hbad : ∀ a w M', q = .inr a → zR_F M M' → zR M' tx (.inr a) → ∃ M2, K w M' = some M2 ∧ G (.inr a) M2) : ∃ M2, bd_2 X K = some M2 ∧ G (zT_bind q k) M2 := by
  obtain ⟨v, M', e1, f1, g⟩ := hX
  rw [e1, zR_b2]
  cases q with
  | inl a =>
    obtain ⟨rfl, g⟩ := g
    exact hok a M' rfl f1 g
  | inr a => exact hbad a v M' rfl f1 g
theorem zR_tailI (h : zR_S M0 M tx Q F m e) (h40 : zp_ni Q < 40) (hnb : 1 ≤ zp_nb Q) {q : Nat × Nat × Nat × Nat × Nat} (hq : zp_iok q) : ∃ M', ((ff_M_endsLine 52 M).bind fun M7 => (gf_I M7 52 11 16).bind fun x8 => if x8 = 0 then ((ff_M_newItem 52 (nI q.1) (nI q.2.1) (nI q.2.2.1) (nI q.2.2.2.1) (nI q.2.2.2.2) M7).bind fun M8 => some M8) else (some M7)) = some M' ∧ zR_1 M0 tx F m (zT_bind (zT_sem tx e) fun e' => .inl (zQ_app Q q, e')) M' := by
  obtain ⟨M1, e1, f1, g1⟩ := zR_ends h.2.1
  rw [e1, Option.bind_some, zg_I (zR_e g1), Option.bind_some]
  cases es : zT_sem tx e with
  | inl e' =>
    rw [es] at g1
    have S1 := h.k f1 g1
    obtain ⟨M2, e2, f2, h2⟩ := zR_newItem S1.w S1.2.2.2.1 S1.2.2.2.2.2 h40 hnb q
    rw [if_pos g1.2.2.2.1, e2, Option.bind_some]
    exact ⟨M2, rfl, S1.p f2 h2 (S1.2.2.2.2.1.k f2.1 (fun b hb => rfl)) (zQ_app_V S1.2.2.2.2.2 hq h40 hnb)⟩
  | inr a =>
    rw [es] at g1
    rw [if_neg (zR_ne g1)]
    exact ⟨M1, rfl, h.er f1 g1⟩
theorem zR_tailIE {a : zT_R} (h : zR M tx (.inr a)) (x1 x2 x3 x4 x5 : Int32) : ((ff_M_endsLine 52 M).bind fun M7 => (gf_I M7 52 11 16).bind fun x8 => if x8 = 0 then ((ff_M_newItem 52 x1 x2 x3 x4 x5 M7).bind fun M8 => some M8) else (some M7)) = some M := by
  rw [zR_endsE h, Option.bind_some, zg_I (zR_e h), Option.bind_some, if_neg (zR_ne h)]
theorem zR_item (h : zR_S M0 M tx Q F m e) (hnb : 1 ≤ zp_nb Q) {kd : Nat} (hk3 : kd ≤ 3) : ∃ M', ff_M_readsItem 52 (nI kd) M = some M' ∧ zR_1 M0 tx F m (zT_item tx Q e kd) M' := by
  have hV := h.2.2.2.2.2
  have hni := hV.2.1
  have e52 := zR_e h.2.1
  unfold ff_M_readsItem zT_item
  rw [zq_gd e52, zR_get1 h.w h.2.2.2.1, Option.bind_some]
  simp only [zq_jp]
  by_cases c40 : zp_ni Q < 40
  · obtain ⟨M1, e1, f1, g1⟩ := zR_goes h.2.1
    have S1 := h.k f1 g1
    rw [if_neg (show ¬ (40 : Int32) ≤ nI (zp_ni Q) from nI_ge (b := 40) (a := zp_ni Q) c40 (by omega)), if_pos c40, zR_mustT h.2.1, zR_b2, if_neg (show ¬ (1 : Int32) = 0 by decide), e1, Option.bind_some]
    unfold zT_ins
    rcases (show kd = 0 ∨ kd = 1 ∨ kd = 2 ∨ kd = 3 by omega) with z | z | z | z
    · subst z
      simp only [show ¬ nI 0 = (3 : Int32) by decide, show nI 0 = (0 : Int32) from rfl, show ¬ (0 : Int32) = 2 by decide, if_true, if_false, zT_bind_assoc, zT_bind_l]
      rw [if_neg (by decide)]
      refine zR_take (zR_var g1) (G := zR_1 M0 tx F m) (fun a Ma ha fa ga => ?_) (fun a w Ma ha fa ga => ?_)
      · refine zR_take (zR_num (m := 999) ga (by omega)) (G := zR_1 M0 tx F m) (fun b Mb hb fb gb => ?_) (fun b w Mb hb fb gb => ?_)
        · have oa := zT_var_ok S1.2.1.2.2.1.1 ha
          have ob := zT_num_ok ga.2.2.1.1 hb
          exact zR_tailI ((S1.k fa ga).k fb gb) c40 hnb (q := (0, a.1, b.1, 0, 0)) (zp_iok_set oa.1 (by omega))
        · exact ⟨Mb, zR_tailIE gb _ _ _ _ _, (S1.k fa ga).er fb gb⟩
      · rw [zR_numE ga, zR_b2]
        exact ⟨Ma, zR_tailIE ga _ _ _ _ _, S1.er fa ga⟩
    · subst z
      simp only [show ¬ nI 1 = (3 : Int32) by decide, show ¬ nI 1 = (0 : Int32) by decide, show ¬ nI 1 = (2 : Int32) by decide, if_true, if_false, zT_bind_assoc, zT_bind_l]
      rw [if_neg (by omega)]
      simp only [zT_bind_assoc, zT_bind_l]
      refine zR_take (zR_var g1) (G := zR_1 M0 tx F m) (fun a Ma ha fa ga => ?_) (fun a w Ma ha fa ga => ?_)
      · refine zR_take (zR_var ga) (G := zR_1 M0 tx F m) (fun b Mb hb fb gb => ?_) (fun b w Mb hb fb gb => ?_)
        · have oa := zT_var_ok S1.2.1.2.2.1.1 ha
          have ob := zT_var_ok ga.2.2.1.1 hb
          exact zR_tailI ((S1.k fa ga).k fb gb) c40 hnb (q := (1, a.1, b.1, 0, 0)) (zp_iok_move oa.1 ob.1)
        · exact ⟨Mb, zR_tailIE gb _ _ _ _ _, (S1.k fa ga).er fb gb⟩
      · rw [zR_varE ga, zR_b2]
        exact ⟨Ma, zR_tailIE ga _ _ _ _ _, S1.er fa ga⟩
    · subst z
      simp only [show ¬ nI 2 = (3 : Int32) by decide, show ¬ nI 2 = (0 : Int32) by decide, show nI 2 = (2 : Int32) from rfl, show ¬ (2 : Int32) = 3 by decide, show ¬ (2 : Int32) = 0 by decide, if_true, if_false, zT_bind_assoc, zT_bind_l]
      rw [if_neg (by omega), if_neg (by omega)]
      simp only [zT_bind_assoc, zT_bind_l]
      refine zR_take (zR_var g1) (G := zR_1 M0 tx F m) (fun a Ma ha fa ga => ?_) (fun a w Ma ha fa ga => ?_)
      · refine zR_take (zR_var ga) (G := zR_1 M0 tx F m) (fun b Mb hb fb gb => ?_) (fun b w Mb hb fb gb => ?_)
        · refine zR_take (zR_opr gb) (G := zR_1 M0 tx F m) (fun c Mc hc fc gc => ?_) (fun c w Mc hc fc gc => ?_)
          · refine zR_take (zR_var gc) (G := zR_1 M0 tx F m) (fun d Md hd fd gd => ?_) (fun d w Md hd fd gd => ?_)
            · have oa := zT_var_ok S1.2.1.2.2.1.1 ha
              have ob := zT_var_ok ga.2.2.1.1 hb
              have oc := zT_opr_ok gb.2.2.1.1 hc
              have od := zT_var_ok gc.2.2.1.1 hd
              exact zR_tailI ((((S1.k fa ga).k fb gb).k fc gc).k fd gd) c40 hnb (q := (2, a.1, b.1, c.1, d.1)) (zp_iok_calc oa.1 ob.1 oc.1 od.1)
            · exact ⟨Md, zR_tailIE gd _ _ _ _ _, (((S1.k fa ga).k fb gb).k fc gc).er fd gd⟩
          · rw [zR_varE gc, zR_b2]
            exact ⟨Mc, zR_tailIE gc _ _ _ _ _, ((S1.k fa ga).k fb gb).er fc gc⟩
        · rw [zR_oprE gb, zR_b2, zR_varE gb, zR_b2]
          exact ⟨Mb, zR_tailIE gb _ _ _ _ _, (S1.k fa ga).er fb gb⟩
      · rw [zR_varE ga, zR_b2, zR_oprE ga, zR_b2, zR_varE ga, zR_b2]
        exact ⟨Ma, zR_tailIE ga _ _ _ _ _, S1.er fa ga⟩
    · subst z
      simp only [show nI 3 = (3 : Int32) from rfl, show ¬ (3 : Int32) = 0 by decide, show ¬ (3 : Int32) = 2 by decide, if_true, if_false, zT_bind_assoc, zT_bind_l]
      rw [if_neg (by omega), if_neg (by omega), if_neg (by omega)]
      simp only [zT_bind_assoc, zT_bind_l]
      refine zR_take (zR_var g1) (G := zR_1 M0 tx F m) (fun a Ma ha fa ga => ?_) (fun a w Ma ha fa ga => ?_)
      · have oa := zT_var_ok S1.2.1.2.2.1.1 ha
        exact zR_tailI (S1.k fa ga) c40 hnb (q := (3, 0, a.1, 0, 0)) (zp_iok_show oa.1)
      · exact ⟨Ma, zR_tailIE ga _ _ _ _ _, S1.er fa ga⟩
  · obtain ⟨M1, e1, f1, g1⟩ := zR_mustF h.2.1 (c := 3) (by omega) (by omega)
    have e1' : ff_M_must 52 0 3 M = some (0, M1) := e1
    rw [if_pos (show (40 : Int32) ≤ nI (zp_ni Q) from nI_le (a := 40) (by omega) (by omega)), if_neg c40, e1', zR_b2, if_pos rfl]
    exact ⟨M1, rfl, h.er f1 g1⟩
end ZRS
