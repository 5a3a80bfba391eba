/-! ===== the reference reads a whole text ===== -/
section ZRL
variable {M0 M : mm_T} {tx : (Nat → Nat) × Nat} {Q : zp_T} {F : Nat → Nat × Nat} {m e : Nat}
def zR_k0 : mm_T → Option mm_T := fun (M7 : mm_T) => (gf_I M7 52 11 16).bind fun x10 => if x10 = 0 then ((ff_M_readsExit 52 M7).bind fun M8 => some M8) else (some M7)
def zR_4 (M0 : mm_T) (tx : (Nat → Nat) × Nat) (f m : Nat) (g : (zp_T × (Nat → Nat × Nat)) ⊕ zT_R) (M' : mm_T) : Prop := (∃ a, g = .inr a ∧ zR_E M0 M' tx a) ∨ ∃ f' Q' F' e', f' < f ∧ g = zT_go tx f' false Q' F' e' ∧ zR_S M0 M' tx Q' F' (m + 1) e' ∧ zp_nb Q' = m + 1 ∧ tx.2 - e' + 1 ≤ f'
theorem zR_k0E {a : zT_R} (h : zR M tx (.inr a)) : zR_k0 M = some M := by
  unfold zR_k0
  rw [zg_I (zR_e h), Option.bind_some, if_neg (zR_ne h)]
theorem zR_64E {a : zT_R} (h : zR M tx (.inr a)) (fu : Nat) : lf_M_readsBlock_64 zR_k0 52 (fu + 1) (-1) M = some M := by
  show lb_M_readsBlock_64 zR_k0 52 (lf_M_readsBlock_64 zR_k0 52 fu) (-1) M = _
  unfold lb_M_readsBlock_64
  rw [if_pos rfl, zR_k0E h]
theorem zT_kh_le {e kd : Nat} (ek : zT_kh tx e = some kd) : kd ≤ 3 := by
  unfold zT_kh at ek
  split at ek
  · cases ek; omega
  · split at ek
    · cases ek; omega
    · split at ek
      · cases ek; omega
      · split at ek
        · cases ek; omega
        · cases ek
theorem zR_blk : ∀ (f fu : Nat) (Q : zp_T) (e : Nat) (M : mm_T), zR_S M0 M tx Q F m e → m + 1 = zp_nb Q → tx.2 - e + 1 ≤ f → f + 1 ≤ fu → ∃ M', lf_M_readsBlock_64 zR_k0 52 fu (zo_N (zT_kh tx e)) M = some M' ∧ zR_4 M0 tx f m (zT_go tx f true Q F e) M' := by
  intro f
  induction f with
  | zero => intro fu Q e M h hm hf; omega
  | succ f ih =>
    intro fu Q e M h hm hf hfu
    obtain ⟨fu, rfl⟩ : ∃ g, fu = g + 1 := ⟨fu - 1, by omega⟩
    have he := h.2.1.2.2.1.1
    have z := h.2.1.2.2.2.1
    have e52 := zR_e h.2.1
    show ∃ M', lb_M_readsBlock_64 zR_k0 52 (lf_M_readsBlock_64 zR_k0 52 fu) (zo_N (zT_kh tx e)) M = some M' ∧ _
    unfold lb_M_readsBlock_64
    cases ek : zT_kh tx e with
    | some kd =>
      have hkd := zT_kh_le ek
      have eg : zT_go tx (f + 1) true Q F e = zT_bind (zT_item tx Q e kd) fun a => zT_go tx f true a.1 F a.2 := by
        show (match zT_kh tx e with | some kd => _ | none => _) = _
        rw [ek]
      rw [eg, zo_some, if_neg (show ¬ nI kd = -1 from by rcases (show kd = 0 ∨ kd = 1 ∨ kd = 2 ∨ kd = 3 by omega) with z | z | z | z <;> subst z <;> decide), zg_I e52, Option.bind_some, z, if_pos rfl]
      obtain ⟨M1, e1, g1⟩ := zR_item h (by omega) hkd
      rw [e1, Option.bind_some]
      cases er : zT_item tx Q e kd with
      | inl a =>
        rw [er] at g1
        have S1 : zR_S M0 M1 tx a.1 F m a.2 := g1
        have o := zT_item_ok he er
        rw [zR_kind S1.2.1, Option.bind_some]
        obtain ⟨M2, e2, g2⟩ := ih fu a.1 a.2 M1 S1 (by omega) (by omega) (by omega)
        refine ⟨M2, e2, ?_⟩
        rcases g2 with ⟨b, q1, q2⟩ | ⟨f', Q', F', e', q1, q2⟩
        · exact Or.inl ⟨b, q1, q2⟩
        · exact Or.inr ⟨f', Q', F', e', by omega, q2⟩
      | inr a =>
        rw [er] at g1
        have E1 : zR_E M0 M1 tx a := g1
        obtain ⟨fu, rfl⟩ : ∃ g, fu = g + 1 := ⟨fu - 1, by omega⟩
        rw [zR_kindE E1.2.1, Option.bind_some, zR_64E E1.2.1]
        exact ⟨M1, rfl, Or.inl ⟨a, rfl, E1⟩⟩
    | none =>
      have eg : zT_go tx (f + 1) true Q F e = zT_bind (zT_exit tx Q F e) fun a => zT_go tx f false a.1 a.2.1 a.2.2 := by
        show (match zT_kh tx e with | some kd => _ | none => _) = _
        rw [ek]
      rw [eg, if_pos (show zo_N none = -1 from rfl)]
      obtain ⟨M1, e1, g1⟩ := zR_exit h hm
      unfold zR_k0
      rw [zg_I e52, Option.bind_some, z, if_pos rfl, e1, Option.bind_some]
      refine ⟨M1, rfl, ?_⟩
      cases er : zT_exit tx Q F e with
      | inl a =>
        rw [er] at g1
        have o := zT_exit_ok he er
        exact Or.inr ⟨f, a.1, a.2.1, a.2.2, by omega, rfl, g1, by omega, by omega⟩
      | inr a =>
        rw [er] at g1
        exact Or.inl ⟨a, rfl, g1⟩
/-- a block -/
theorem zR_block (h : zR_S M0 M tx Q F m e) (hm : m = zp_nb Q) {f : Nat} (hf : tx.2 - e + 1 ≤ f + 1) (h1 : f ≤ 9999) : ∃ M', ff_M_readsBlock 52 M = some M' ∧ zR_4 M0 tx f m (zT_bind (zT_head tx Q e) fun a => zT_go tx f true a.1 F a.2) M' := by
  have hV := h.2.2.2.2.2
  have h12 := hV.1
  have e52 := zR_e h.2.1
  have z10 : ¬ (1 : Int32) = 0 := by decide
  have he := h.2.1.2.2.1.1
  unfold ff_M_readsBlock zT_head
  rw [zq_gd e52, zR_word h.2.1 (show 1 < 31 by omega), Option.bind_some]
  simp only [zq_jp]
  by_cases c1 : zT_W tx e 1
  · have em := zR_mustT h.2.1 1
    rw [if_pos c1, decide_eq_true c1]
    have em' : ff_M_must 52 (zb_B true) 1 M = some (1, M) := em
    rw [em', zR_b2, if_neg z10, zR_get0 h.w h.2.2.2.1, Option.bind_some]
    by_cases c2 : zp_nb Q < 12
    · obtain ⟨M1, e1, f1, g1⟩ := zR_goes h.2.1
      have S1 := h.k f1 g1
      obtain ⟨M2, e2, f2, g2⟩ := zR_ends g1
      rw [if_neg (show ¬ (12 : Int32) ≤ nI (zp_nb Q) from nI_ge (b := 12) (a := zp_nb Q) c2 (by omega)), if_pos c2, zR_mustT h.2.1, zR_b2, if_neg z10, e1, Option.bind_some, e2, Option.bind_some, zg_I (zR_e g2), Option.bind_some]
      cases es : zT_sem tx (zT_e tx e) with
      | inl e' =>
        rw [es] at g2
        have S2 := S1.k f2 g2
        have o := zT_sem_ok g1.2.2.1.1 es
        have og := zT_e_le he
        have os := zT_s_ge tx e
        obtain ⟨M3, e3, f3, h3⟩ := zR_newBlock S2.w S2.2.2.2.1 S2.2.2.2.2.2 c2
        have S3 : zR_S M0 M3 tx (zQ_add Q) F m e' := S2.p f3 h3 (S2.2.2.2.2.1.k f3.1 (fun b hb => rfl)) (zQ_add_V S2.2.2.2.2.2 c2)
        rw [if_pos g2.2.2.2.1, e3, Option.bind_some, zR_kind S3.2.1, Option.bind_some, zs_fuel]
        exact zR_blk f 1000000 (zQ_add Q) e' M3 S3 (by rw [hm]; rfl) (by omega) (by omega)
      | inr a =>
        rw [es] at g2
        rw [if_neg (zR_ne g2)]
        exact ⟨M2, rfl, Or.inl ⟨a, rfl, S1.er f2 g2⟩⟩
    · obtain ⟨M1, e1, f1, g1⟩ := zR_mustF h.2.1 (c := 3) (by omega) (by omega)
      have e1' : ff_M_must 52 0 3 M = some (0, M1) := e1
      rw [if_pos (show (12 : Int32) ≤ nI (zp_nb Q) from nI_le (a := 12) (by omega) (by omega)), if_neg c2, e1', zR_b2, if_pos rfl]
      exact ⟨M1, rfl, Or.inl ⟨_, rfl, h.er f1 g1⟩⟩
  · obtain ⟨M1, e1, f1, g1⟩ := zR_mustF h.2.1 (c := 1) (by omega) (by omega)
    have e1' : ff_M_must 52 (zb_B false) 1 M = some (0, M1) := e1
    rw [if_neg c1, decide_eq_false c1, e1', zR_b2, if_pos rfl]
    exact ⟨M1, rfl, Or.inl ⟨_, rfl, h.er f1 g1⟩⟩
def zR_5 (M0 : mm_T) (tx : (Nat → Nat) × Nat) (r : (zp_T × (Nat → Nat × Nat)) ⊕ zT_R) (M' : mm_T) : Prop := match r with
  | .inl a => ∃ e, 1 ≤ zp_nb a.1 ∧ zR_S M0 M' tx a.1 a.2 (zp_nb a.1) e
  | .inr a => zR_E M0 M' tx a
theorem zR_goE {a : zT_R} (h : zR M tx (.inr a)) (k0 : mm_T → Option (Int32 × mm_T)) (fu : Nat) : lf_M_loadProgram_51 k0 52 (fu + 1) M = k0 M := by
  show lb_M_loadProgram_51 k0 52 (lf_M_loadProgram_51 k0 52 fu) M = _
  unfold lb_M_loadProgram_51
  rw [zg_I (zR_e h), Option.bind_some, if_neg (zR_ne h)]
theorem zR_go (k0 : mm_T → Option (Int32 × mm_T)) : ∀ (n f fu : Nat) (Q : zp_T) (F : Nat → Nat × Nat) (m e : Nat) (M : mm_T), f ≤ n → zR_S M0 M tx Q F m e → m = zp_nb Q → tx.2 - e + 1 ≤ f → f + 1 ≤ fu → f ≤ 9999 → ∃ M', lf_M_loadProgram_51 k0 52 fu M = k0 M' ∧ zR_5 M0 tx (zT_go tx f false Q F e) M' := by
  intro n
  induction n with
  | zero => intro f fu Q F m e M hn h hm hf; omega
  | succ n ih =>
    intro f fu Q F m e M hn h hm hf hfu h99
    obtain ⟨f, rfl⟩ : ∃ g, f = g + 1 := ⟨f - 1, by omega⟩
    obtain ⟨fu, rfl⟩ : ∃ g, fu = g + 1 := ⟨fu - 1, by omega⟩
    have h12 := h.2.2.2.2.2.1
    have e52 := zR_e h.2.1
    have core : ¬ (zp_nb Q ≠ 0 ∧ zT_k tx e = 0) → ∃ M2, ((ff_M_readsBlock 52 M).bind fun M9 => lf_M_loadProgram_51 k0 52 fu M9) = k0 M2 ∧ zR_5 M0 tx (zT_go tx (f + 1) false Q F e) M2 := by
      intro hn'
      have eg : zT_go tx (f + 1) false Q F e = zT_bind (zT_head tx Q e) fun a => zT_go tx f true a.1 F a.2 := by
        show (if zp_nb Q ≠ 0 ∧ zT_k tx e = 0 then _ else _) = _
        rw [if_neg hn']
      rw [eg]
      obtain ⟨M1, e1, g1⟩ := zR_block h hm hf (by omega)
      rw [e1, Option.bind_some]
      rcases g1 with ⟨a, q1, q2⟩ | ⟨f', Q', F', e', q1, q2, q3, q4, q5⟩
      · obtain ⟨fu, rfl⟩ : ∃ g, fu = g + 1 := ⟨fu - 1, by omega⟩
        rw [q1]
        exact ⟨M1, zR_goE q2.2.1 k0 fu, q2⟩
      · rw [q2]
        exact ih f' fu Q' F' (m + 1) e' M1 (by omega) q3 q4.symm q5 (by omega) (by omega)
    show ∃ M', lb_M_loadProgram_51 k0 52 (lf_M_loadProgram_51 k0 52 fu) M = k0 M' ∧ _
    unfold lb_M_loadProgram_51
    rw [zg_I e52, Option.bind_some, h.2.1.2.2.2.1, if_pos rfl, zR_get0 h.w h.2.2.2.1, Option.bind_some, zq_jp]
    by_cases c0 : zp_nb Q = 0
    · rw [if_pos (by rw [c0]; rfl)]
      exact core (fun z => z.1 c0)
    · rw [if_neg (show ¬ nI (zp_nb Q) = 0 from nI_ne0 (by omega) (by omega)), zg_I e52, Option.bind_some, h.2.1.2.2.1.2.1]
      by_cases ck : zT_k tx e = 0
      · have eg : zT_go tx (f + 1) false Q F e = .inl (Q, F) := by
          show (if zp_nb Q ≠ 0 ∧ zT_k tx e = 0 then _ else _) = _
          rw [if_pos ⟨c0, ck⟩]
        rw [if_pos (by rw [ck]; rfl), eg]
        exact ⟨M, rfl, e, by show 1 ≤ zp_nb Q; omega, hm ▸ h⟩
      · rw [if_neg (show ¬ nI (zT_k tx e) = 0 from nI_ne0 (by omega) (by have := zT_k_le tx e; omega))]
        exact core (fun z => ck z.2)
end ZRL
