/-! ===== the class reads a whole text ===== -/
def zT_go (tx : (Nat → Nat) × Nat) : Nat → Bool → zp_T → (Nat → Nat × Nat) → Nat → (zp_T × (Nat → Nat × Nat)) ⊕ zT_R
  | 0, _, Q, F, _ => .inl (Q, F)
  | f + 1, true, Q, F, e => (match zT_kh tx e with
    | some kd => zT_bind (zT_item tx Q e kd) fun a => zT_go tx f true a.1 F a.2
    | none => zT_bind (zT_exit tx Q F e) fun a => zT_go tx f false a.1 a.2.1 a.2.2)
  | f + 1, false, Q, F, e => if zp_nb Q ≠ 0 ∧ zT_k tx e = 0 then .inl (Q, F) else zT_bind (zT_head tx Q e) fun a => zT_go tx f true a.1 F a.2
def zT_chk (Q : zp_T) (F : Nat → Nat × Nat) : Nat → Nat → Option zT_R
  | 0, _ => none
  | n + 1, b => if 1 ≤ zp_w Q b ∧ zp_nb Q ≤ zp_f Q b then some (4, (F b).1) else if zp_w Q b = 2 ∧ zp_nb Q ≤ zp_s Q b then some (4, (F b).2) else zT_chk Q F n (b + 1)
def zQ_0 : zp_T := (0, 0, (fun _ => 0), (fun _ => (0, 0, 0, 0)), fun _ => (0, 0, 0, 0, 0))
def zT_parse (tx : (Nat → Nat) × Nat) : zp_T ⊕ zT_R := zT_bind (zT_go tx 701 false zQ_0 (fun _ => (0, 0)) 0) fun a => match zT_chk a.1 a.2 (zp_nb a.1) 0 with
  | none => .inl a.1
  | some r => .inr r
theorem zT_item_ok {tx : (Nat → Nat) × Nat} {Q : zp_T} {e kd : Nat} {a : zp_T × Nat} (he : e ≤ tx.2) (h : zT_item tx Q e kd = .inl a) : zp_nb a.1 = zp_nb Q ∧ e < a.2 ∧ a.2 ≤ tx.2 := by
  have hel := zT_e_le he
  have hsg := zT_s_ge tx e
  unfold zT_item at h
  split at h
  · obtain ⟨x, hx, h⟩ := zT_bind_inl h
    obtain ⟨y, hy, h⟩ := zT_bind_inl h
    cases h
    have o1 := zT_ins_ok hel.2.1 hx
    have o2 := zT_sem_ok o1.2.2 hy
    exact ⟨rfl, by show e < y; omega, o2.2.2⟩
  · cases h
theorem zT_exit_ok {tx : (Nat → Nat) × Nat} {Q : zp_T} {F : Nat → Nat × Nat} {e : Nat} {a : zp_T × (Nat → Nat × Nat) × Nat} (he : e ≤ tx.2) (h : zT_exit tx Q F e = .inl a) : zp_nb a.1 = zp_nb Q ∧ e < a.2.2 ∧ a.2.2 ≤ tx.2 := by
  unfold zT_exit at h
  obtain ⟨x, hx, h⟩ := zT_bind_inl h
  obtain ⟨y, hy, h⟩ := zT_bind_inl h
  cases h
  have o1 := zT_ex_ok he hx
  have o2 := zT_sem_ok o1.2.2 hy
  exact ⟨rfl, by show e < y; omega, o2.2.2⟩
theorem zT_head_ok {tx : (Nat → Nat) × Nat} {Q : zp_T} {e : Nat} {a : zp_T × Nat} (he : e ≤ tx.2) (h : zT_head tx Q e = .inl a) : zp_nb a.1 = zp_nb Q + 1 ∧ e < a.2 ∧ a.2 ≤ tx.2 := by
  have hel := zT_e_le he
  have hsg := zT_s_ge tx e
  unfold zT_head at h
  split at h
  · split at h
    · obtain ⟨y, hy, h⟩ := zT_bind_inl h
      cases h
      have o2 := zT_sem_ok hel.2.1 hy
      exact ⟨rfl, by show e < y; omega, o2.2.2⟩
    · cases h
  · cases h
section ZLC
variable {M0 M : mm_T} {tx : (Nat → Nat) × Nat} {Q : zp_T} {F : Nat → Nat × Nat} {m e : Nat}
def zQ_5 (M0 : mm_T) (tx : (Nat → Nat) × Nat) (r : (zp_T × (Nat → Nat × Nat)) ⊕ zT_R) (M' : mm_T) : Prop := match r with
  | .inl a => ∃ e, 1 ≤ zp_nb a.1 ∧ zQ_S M0 M' tx a.1 a.2 (zp_nb a.1) e
  | .inr a => zQ_E M0 M' tx a.1 a.2
theorem zQ_goE {c p : Nat} (h : zQ_E M0 M tx c p) (k0 : mm_T → Option (Int32 × mm_T)) (fu : Nat) (a b : Int32) : lf_S_parse_27 k0 9 2 (fu + 1) a b M = k0 M := by
  show lb_S_parse_27 k0 9 2 (lf_S_parse_27 k0 9 2 fu) a b M = _
  unfold lb_S_parse_27
  by_cases c : (700 : Int32) < b
  · rw [if_pos c]
  · rw [if_neg c, zg_I (zP_e9 h.2.1), Option.bind_some, if_neg h.2.ne]
theorem zQ_goC (hp0 : zy_p M0) (hP0 : zo_P M0 2) (k0 : mm_T → Option (Int32 × mm_T)) : ∀ (f fu i : Nat) (inB : Bool) (Q : zp_T) (F : Nat → Nat × Nat) (m e : Nat) (M : mm_T), zQ_S M0 M tx Q F m e → (if inB then m + 1 else m) = zp_nb Q → (i = 0 ↔ zp_nb Q = 0) → i ≤ e → tx.2 - e + 1 ≤ f → tx.2 ≤ 700 → ∃ M', lf_S_parse_27 k0 9 2 (fu + f + 1) (if inB then 1 else 0) (nI i) M = k0 M' ∧ zQ_5 M0 tx (zT_go tx f inB Q F e) M' := by
  intro f
  induction f with
  | zero => intro fu i inB Q F m e M h hm hi hie hf h7; omega
  | succ f ih =>
    intro fu i inB Q F m e M h hm hi hie hf h7
    have hp := zQ_p hp0 h
    have e9 := zP_e9 hp
    have he := h.2.2.1.1
    have eA : ∀ {β : Type} (X : Option mm_T) (K : mm_T → Option β), (X.bind fun M10 => (ff_S_takeSemicolon 9 M10).bind K) = (X.bind fun M10 => ff_S_takeSemicolon 9 M10).bind K := fun X K => by cases X <;> rfl
    -- one turn
    have turn : ∀ {β : Type} {X : Option mm_T} {r : β ⊕ zT_R} {v : Int32} {g : β → (zp_T × (Nat → Nat × Nat)) ⊕ zT_R}, (∃ M', X = some M' ∧ (∀ a, r = .inl a → ∃ M2, lf_S_parse_27 k0 9 2 (fu + f + 1) v (nI (i + 1)) M' = k0 M2 ∧ zQ_5 M0 tx (g a) M2) ∧ ∀ a, r = .inr a → zQ_E M0 M' tx a.1 a.2) → ∃ M2, (X.bind fun M7 => (some (nI i + (1 : Int32))).bind fun x3 => lf_S_parse_27 k0 9 2 (fu + f + 1) v x3 M7) = k0 M2 ∧ zQ_5 M0 tx (zT_bind r g) M2 := by
      rintro β X r v g ⟨M', e1, g1, g2⟩
      rw [e1, Option.bind_some, Option.bind_some, nI_1]
      cases r with
      | inl a => exact g1 a rfl
      | inr a => exact ⟨M', zQ_goE (g2 a rfl) k0 _ _ _, g2 a rfl⟩
    show ∃ M', lb_S_parse_27 k0 9 2 (lf_S_parse_27 k0 9 2 (fu + f + 1)) (if inB then 1 else 0) (nI i) M = k0 M' ∧ _
    unfold lb_S_parse_27
    rw [if_neg (show ¬ (700 : Int32) < nI i from nI_nlt (a := 700) (by omega) (by omega)), zg_I e9, Option.bind_some, h.2.2.2.1, if_pos rfl, zq_jp]
    simp only [zq_jp, eA]
    cases inB with
    | false =>
      have hm' : m = zp_nb Q := hm
      simp only [Bool.false_eq_true, if_false, if_true]
      have core : ¬ (zp_nb Q ≠ 0 ∧ zT_k tx e = 0) → ∃ M2, (((ff_S_parseHead 9 2 M).bind fun M10 => ff_S_takeSemicolon 9 M10).bind fun M7 => (some (nI i + (1 : Int32))).bind fun x3 => lf_S_parse_27 k0 9 2 (fu + f + 1) 1 x3 M7) = k0 M2 ∧ zQ_5 M0 tx (zT_go tx (f + 1) false Q F e) M2 := by
        intro hn
        have eg : zT_go tx (f + 1) false Q F e = zT_bind (zT_head tx Q e) fun a => zT_go tx f true a.1 F a.2 := by
          show (if zp_nb Q ≠ 0 ∧ zT_k tx e = 0 then _ else _) = _
          rw [if_neg hn]
        rw [eg]
        obtain ⟨M1, e1, g1⟩ := zQ_head hp0 hP0 h
        refine turn ⟨M1, e1, fun a ha => ?_, fun a ha => ?_⟩
        · rw [ha] at g1
          have o := zT_head_ok he ha
          exact ih fu (i + 1) true a.1 F m a.2 M1 g1 (by show m + 1 = zp_nb a.1; omega) (by omega) (by omega) (by omega) h7
        · rw [ha] at g1; exact g1
      by_cases ci : i = 0
      · rw [if_pos (by rw [ci]; rfl)]
        exact core (fun z => z.1 (hi.mp ci))
      · rw [if_neg (show ¬ nI i = 0 from nI_ne0 (by omega) (by omega)), zg_I e9, Option.bind_some, h.2.2.1.2.1]
        by_cases ck : zT_k tx e = 0
        · have eg : zT_go tx (f + 1) false Q F e = .inl (Q, F) := by
            show (if zp_nb Q ≠ 0 ∧ zT_k tx e = 0 then _ else _) = _
            rw [if_pos ⟨fun z => ci (hi.mpr z), ck⟩]
          rw [if_pos (by rw [ck]; rfl), eg]
          exact ⟨M, rfl, e, by show 1 ≤ zp_nb Q; have := mt hi.mpr ci; omega, hm' ▸ h⟩
        · rw [if_neg (show ¬ nI (zT_k tx e) = 0 from nI_ne0 (by omega) (by have := zT_k_le tx e; omega))]
          exact core (fun z => ck z.2)
    | true =>
      have hm' : m + 1 = zp_nb Q := hm
      have hH := h.2.2.2.2.2.1
      simp only [if_true, if_false, show ¬ (1 : Int32) = 0 by decide, ite_self]
      rw [zQ_kindC hp h.2.1 h.2.2.1, Option.bind_some]
      cases ek : zT_kh tx e with
      | some kd =>
        have eg : zT_go tx (f + 1) true Q F e = zT_bind (zT_item tx Q e kd) fun a => zT_go tx f true a.1 F a.2 := by
          show (match zT_kh tx e with | some kd => _ | none => _) = _
          rw [ek]
        have hkd : kd ≤ 3 := by
          unfold zT_kh at ek
          split at ek
          · cases ek; omega
          · split at ek
            · cases ek; omega
            · split at ek
              · cases ek; omega
              · split at ek
                · cases ek; omega
                · cases ek
        rw [eg, zo_some, if_neg (show ¬ nI kd = -1 from by rcases (show kd = 0 ∨ kd = 1 ∨ kd = 2 ∨ kd = 3 by omega) with z | z | z | z <;> subst z <;> decide)]
        obtain ⟨M1, e1, g1⟩ := zQ_instr hp0 hP0 h (by omega) ek
        refine turn ⟨M1, e1, fun a ha => ?_, fun a ha => ?_⟩
        · rw [ha] at g1
          have o := zT_item_ok he ha
          exact ih fu (i + 1) true a.1 F m a.2 M1 g1 (by show m + 1 = zp_nb a.1; omega) (by omega) (by omega) (by omega) h7
        · rw [ha] at g1; exact g1
      | none =>
        have eg : zT_go tx (f + 1) true Q F e = zT_bind (zT_exit tx Q F e) fun a => zT_go tx f false a.1 a.2.1 a.2.2 := by
          show (match zT_kh tx e with | some kd => _ | none => _) = _
          rw [ek]
        rw [eg, if_pos (show zo_N none = -1 from rfl), zg_I (zo_e (hP0.keep h.1)), Option.bind_some, hH.1, show (1 : Int32) = nI 1 from rfl, zi_sub (b := 1) (by omega), show zp_nb Q - 1 = m by omega]
        obtain ⟨M1, e1, g1⟩ := zQ_exit hp0 hP0 h hm'
        refine turn ⟨M1, e1, fun a ha => ?_, fun a ha => ?_⟩
        · rw [ha] at g1
          have o := zT_exit_ok he ha
          exact ih fu (i + 1) false a.1 a.2.1 (m + 1) a.2.2 M1 g1 (by show m + 1 = zp_nb a.1; omega) (by omega) (by omega) (by omega) h7
        · rw [ha] at g1; exact g1
/-- what the checks read -/
theorem zQ_rd (hP : zo_P M 2) (hp : zy_p M) {b : Nat} (b12 : b < 12) : ff_P_wayCount 2 (nI b) M = some (mm_I M 5 b) ∧ ff_P_wayOf 2 (nI b) 0 M = some (mm_I M 7 b) ∧ ff_P_wayOf 2 (nI b) 1 M = some (mm_I M 8 b) ∧ ff_D_at_a 11 (nI b) M = some (mm_I M 11 b) ∧ ff_D_at_a 12 (nI b) M = some (mm_I M 12 b) := by
  have e2 := zo_e hP
  refine ⟨?_, ?_, ?_, zd_at hp.2.2.2.1 b12 (by omega), zd_at hp.2.2.2.2 b12 (by omega)⟩
  · unfold ff_P_wayCount
    rw [zq_gd e2, zg_R e2, Option.bind_some, hP.2.1.2.2.1, zd_at hP.2.2.2.2.1 b12 (by omega), Option.bind_some]
  · unfold ff_P_wayOf
    rw [zq_gd e2, if_pos rfl, zg_R e2, Option.bind_some, hP.2.1.2.2.2.2.1, zd_at hP.2.2.2.2.2.2.1 b12 (by omega), Option.bind_some]
  · unfold ff_P_wayOf
    rw [zq_gd e2, if_neg (by decide), zg_R e2, Option.bind_some, hP.2.1.2.2.2.2.2, zd_at hP.2.2.2.2.2.2.2 b12 (by omega), Option.bind_some]
/-- the checks do nothing once an error is kept -/
theorem zQ_chkE (hP0 : zo_P M0 2) {c p : Nat} (h : zQ_E M0 M tx c p) : ∀ (k fu b n : Nat), n ≤ 12 → mm_I M 2 0 = nI n → n - b = k → k + 1 ≤ fu → b ≤ 12 → lf_S_checkExits_2 9 2 fu (nI b) M = some M := by
  have hP := hP0.keep h.1.1
  have e2 := zo_e hP
  have e9 := zP_e9 h.2.1
  have fz : ∀ x : Int32, ff_S_fail 9 4 x M = some M := fun x => zP_fail2 h.2.1 h.2.ne 4 x
  intro k
  induction k with
  | zero =>
    intro fu b n h12 hn hk hf hb
    obtain ⟨fu, rfl⟩ : ∃ g, fu = g + 1 := ⟨fu - 1, by omega⟩
    show lb_S_checkExits_2 9 2 (lf_S_checkExits_2 9 2 fu) (nI b) M = _
    unfold lb_S_checkExits_2
    rw [zg_I e2, Option.bind_some, hn, if_pos (nI_le (show n ≤ b by omega) (by omega))]
  | succ k ih =>
    intro fu b n h12 hn hk hf hb
    obtain ⟨fu, rfl⟩ : ∃ g, fu = g + 1 := ⟨fu - 1, by omega⟩
    obtain ⟨w0, w1, w2, a8, a9⟩ := zQ_rd hP h.2.1 (show b < 12 by omega)
    show lb_S_checkExits_2 9 2 (lf_S_checkExits_2 9 2 fu) (nI b) M = _
    unfold lb_S_checkExits_2
    rw [zg_I e2, Option.bind_some, hn, if_neg (nI_ge (show b < n by omega) (by omega)), w0, Option.bind_some]
    simp only [zq_jp, w0, w1, w2, zg_I e2, zg_R e9, h.2.1.2.1.2.1, h.2.1.2.1.2.2, a8, a9, fz, Option.bind_some, nI_1, ih fu (b + 1) n h12 hn (by omega) (by omega) (by omega), ite_self]
def zQ_6 (M0 M : mm_T) (tx : (Nat → Nat) × Nat) (r : Option zT_R) (M' : mm_T) : Prop := match r with
  | none => M' = M
  | some a => zQ_E M0 M' tx a.1 a.2
theorem zQ_chkC (hp0 : zy_p M0) (hP0 : zo_P M0 2) (h : zQ_S M0 M tx Q F (zp_nb Q) e) : ∀ (k fu b : Nat), zp_nb Q - b = k → k + 14 ≤ fu → b ≤ zp_nb Q → ∃ M', lf_S_checkExits_2 9 2 fu (nI b) M = some M' ∧ zQ_6 M0 M tx (zT_chk Q F k b) M' := by
  have hP := hP0.keep h.1
  have hp := zQ_p hp0 h
  have e2 := zo_e hP
  have e9 := zP_e9 hp
  have hH := h.2.2.2.2.2.1
  have hV := h.2.2.2.2.2.2.2
  have h12 := hV.1
  intro k
  induction k with
  | zero =>
    intro fu b hk hf hb
    obtain ⟨fu, rfl⟩ : ∃ g, fu = g + 1 := ⟨fu - 1, by omega⟩
    show ∃ M', lb_S_checkExits_2 9 2 (lf_S_checkExits_2 9 2 fu) (nI b) M = some M' ∧ _
    unfold lb_S_checkExits_2
    rw [zg_I e2, Option.bind_some, hH.1, if_pos (nI_le (show zp_nb Q ≤ b by omega) (by omega))]
    exact ⟨M, rfl, rfl⟩
  | succ k ih =>
    intro fu b hk hf hb
    obtain ⟨fu, rfl⟩ : ∃ g, fu = g + 1 := ⟨fu - 1, by omega⟩
    have bn : b < zp_nb Q := by omega
    obtain ⟨w0, w1, w2, a8, a9⟩ := zQ_rd hP hp (show b < 12 by omega)
    obtain ⟨g0, _, g1, g2⟩ := hH.2.2.2.2 b bn
    obtain ⟨v0, v1, v2⟩ := hV.2.2.2.2.2.2.1 b bn
    -- an error is kept: the rest of the turn does nothing
    have bad : ∀ {p : Nat} {N : mm_T}, zQ_E M0 N tx 4 p → (ff_P_wayCount 2 (nI b) N = some (mm_I N 5 b) ∧ ff_P_wayOf 2 (nI b) 1 N = some (mm_I N 8 b) ∧ gf_I N 2 7 0 = some (mm_I N 2 0) ∧ gf_R N 9 6 9 = some 12 ∧ ff_D_at_a 12 (nI b) N = some (mm_I N 12 b) ∧ (∀ x : Int32, ff_S_fail 9 4 x N = some N) ∧ lf_S_checkExits_2 9 2 fu (nI (b + 1)) N = some N) := by
      intro p N hE
      obtain ⟨n, n12, hn⟩ := hE.1.2
      have hPN := hP0.keep hE.1.1
      obtain ⟨w0, w1, w2, a8, a9⟩ := zQ_rd hPN hE.2.1 (show b < 12 by omega)
      refine ⟨w0, w2, zg_I (zo_e hPN), (zg_R (zP_e9 hE.2.1)).trans (by rw [hE.2.1.2.1.2.2]), a9, fun x => zP_fail2 hE.2.1 hE.2.ne 4 x, ?_⟩
      exact zQ_chkE hP0 hE (n - (b + 1)) fu (b + 1) n n12 hn rfl (by omega) (by omega)
    have fl : ∀ p : Nat, ∃ N, ff_S_fail 9 4 (nI p) M = some N ∧ zQ_E M0 N tx 4 p := fun p => by
      obtain ⟨N, e1, x1⟩ := zP_fail hp h.2.1 h.2.2.1 h.2.2.2.1 4 p
      exact ⟨N, e1, zQ_ofX hp0 h x1 (by omega) (by omega)⟩
    show ∃ M', lb_S_checkExits_2 9 2 (lf_S_checkExits_2 9 2 fu) (nI b) M = some M' ∧ _
    unfold lb_S_checkExits_2
    rw [zg_I e2, Option.bind_some, hH.1, if_neg (nI_ge bn (by omega)), w0, Option.bind_some, g0]
    simp only [zq_jp]
    -- the second way
    have two : ¬ (1 ≤ zp_w Q b ∧ zp_nb Q ≤ zp_f Q b) → ∃ M', (if nI (zp_w Q b) ≤ (1 : Int32) then ((some (nI b + (1 : Int32))).bind fun x4 => lf_S_checkExits_2 9 2 fu x4 M) else ((ff_P_wayOf 2 (nI b) (1 : Int32) M).bind fun x5 => (gf_I M 2 7 0).bind fun x6 => if x5 < x6 then ((some (nI b + (1 : Int32))).bind fun x4 => lf_S_checkExits_2 9 2 fu x4 M) else ((gf_R M 9 6 9).bind fun x7 => (ff_D_at_a x7 (nI b) M).bind fun x8 => (ff_S_fail 9 (4 : Int32) x8 M).bind fun M3 => (some (nI b + (1 : Int32))).bind fun x4 => lf_S_checkExits_2 9 2 fu x4 M3))) = some M' ∧ zQ_6 M0 M tx (zT_chk Q F (k + 1) b) M' := by
      intro n1
      have ec : zT_chk Q F (k + 1) b = if zp_w Q b = 2 ∧ zp_nb Q ≤ zp_s Q b then some (4, (F b).2) else zT_chk Q F k (b + 1) := by
        show (if 1 ≤ zp_w Q b ∧ zp_nb Q ≤ zp_f Q b then _ else _) = _
        rw [if_neg n1]
      rw [ec]
      simp only [Option.bind_some, nI_1]
      by_cases c1 : zp_w Q b ≤ 1
      · rw [if_pos (show nI (zp_w Q b) ≤ (1 : Int32) from nI_le (b := 1) c1 (by omega)), if_neg (by omega)]
        exact ih fu (b + 1) (by omega) (by omega) (by omega)
      · have ew : zp_w Q b = 2 := by omega
        rw [if_neg (show ¬ nI (zp_w Q b) ≤ (1 : Int32) from nI_ge (b := zp_w Q b) (a := 1) (by omega) (by omega)), w2, Option.bind_some, g2 ew, zg_I e2, Option.bind_some, hH.1]
        by_cases c2 : zp_s Q b < zp_nb Q
        · rw [if_pos (nI_lt c2 (by omega)), if_neg (by omega)]
          exact ih fu (b + 1) (by omega) (by omega) (by omega)
        · obtain ⟨N, eN, hN⟩ := fl (F b).2
          rw [if_neg (nI_nlt (by omega) (by have := v2 ew; omega)), if_pos ⟨ew, by omega⟩, zg_R e9, Option.bind_some, hp.2.1.2.2, a9, Option.bind_some, (h.2.2.2.2.2.2.1 b bn).2 ew, eN, Option.bind_some, (bad hN).2.2.2.2.2.2]
          exact ⟨N, rfl, hN⟩
    by_cases c0 : zp_w Q b = 0
    · rw [if_pos (show nI (zp_w Q b) ≤ 0 from nI_le (b := 0) (by omega) (by omega)), w0, Option.bind_some, g0]
      exact two (by omega)
    · have g1' := g1 (by omega)
      have v1' := v1 (by omega)
      rw [if_neg (show ¬ nI (zp_w Q b) ≤ 0 from nI_ge (b := zp_w Q b) (a := 0) (by omega) (by omega)), w1, Option.bind_some, g1', zg_I e2, Option.bind_some, hH.1]
      by_cases c2 : zp_f Q b < zp_nb Q
      · rw [if_pos (nI_lt c2 (by omega)), w0, Option.bind_some, g0]
        have t := two (by omega)
        rw [zg_I e2] at t
        simp only [hH.1, Option.bind_some] at t ⊢
        exact t
      · obtain ⟨N, eN, hN⟩ := fl (F b).1
        obtain ⟨q1, q2, q3, q4, q5, q6, q7⟩ := bad hN
        have ec : zT_chk Q F (k + 1) b = some (4, (F b).1) := by
          show (if 1 ≤ zp_w Q b ∧ zp_nb Q ≤ zp_f Q b then _ else _) = _
          rw [if_pos ⟨by omega, by omega⟩]
        rw [ec, if_neg (nI_nlt (by omega) (by omega)), zg_R e9, Option.bind_some, hp.2.1.2.1, a8, Option.bind_some, (h.2.2.2.2.2.2.1 b bn).1 (by omega), eN, Option.bind_some]
        simp only [q1, q2, q3, q4, q5, q6, Option.bind_some, nI_1, q7, ite_self]
        exact ⟨N, rfl, hN⟩
/-- the well formed program -/
theorem zQ_fin (h : zQ_S M0 M tx Q F (zp_nb Q) e) (h1 : 1 ≤ zp_nb Q) (hc : zT_chk Q F (zp_nb Q) 0 = none) : zo_H M 2 Q ∧ zp_V Q := by
  obtain ⟨_, _, _, _, _, ⟨g1, g2, g3, g4, g5⟩, _, ⟨v1, v2, v3, v4, v5, v6, v7, v8⟩⟩ := h
  have ok : ∀ (k b : Nat), zp_nb Q - b = k → zT_chk Q F k b = none → ∀ c, b ≤ c → c < zp_nb Q → (1 ≤ zp_w Q c → zp_f Q c < zp_nb Q) ∧ (zp_w Q c = 2 → zp_s Q c < zp_nb Q) := by
    intro k
    induction k with
    | zero => intro b hk _ c h1 h2; omega
    | succ k ih =>
      intro b hk hc c h1 h2
      have hc' : (if 1 ≤ zp_w Q b ∧ zp_nb Q ≤ zp_f Q b then some (4, (F b).1) else if zp_w Q b = 2 ∧ zp_nb Q ≤ zp_s Q b then some (4, (F b).2) else zT_chk Q F k (b + 1)) = none := hc
      by_cases c1 : 1 ≤ zp_w Q b ∧ zp_nb Q ≤ zp_f Q b
      · rw [if_pos c1] at hc'; cases hc'
      · rw [if_neg c1] at hc'
        by_cases c2 : zp_w Q b = 2 ∧ zp_nb Q ≤ zp_s Q b
        · rw [if_pos c2] at hc'; cases hc'
        · rw [if_neg c2] at hc'
          by_cases cb : c = b
          · subst cb; exact ⟨fun z => by omega, fun z => by omega⟩
          · exact ih (b + 1) (by omega) hc' c (by omega) h2
  refine ⟨⟨g1, g2, g3, fun b hb => g4 b hb h1, fun b hb => (g5 b hb).1, fun b hb => (g5 b hb).2.1, fun b hb => (g5 b hb).2.2.1, fun b hb => (g5 b hb).2.2.2⟩, h1, v1, v2, v3, v4, v5, fun b hb => ?_, v8⟩
  have o := ok (zp_nb Q) 0 rfl hc b (Nat.zero_le _) hb
  have v := v7 b hb
  exact ⟨v.1, o.1, fun z => ⟨(v.2.2 z).1, o.2 z⟩⟩
/-- the whole text -/
def zQ_7 (M0 : mm_T) (tx : (Nat → Nat) × Nat) (r : zp_T ⊕ zT_R) (v : Int32) (M' : mm_T) : Prop := match r with
  | .inl Q => v = 1 ∧ zf_F M0 M' zy_Ap ∧ zy_x M' tx ∧ mm_I M' 9 2 = 0 ∧ mm_I M' 9 3 = -1 ∧ zo_H M' 2 Q ∧ zp_V Q
  | .inr a => v = 0 ∧ zf_F M0 M' zy_Ap ∧ zy_x M' tx ∧ mm_I M' 9 2 = nI a.1 ∧ mm_I M' 9 3 = nI a.2 ∧ 0 < a.1 ∧ a.1 < 5
theorem zQ_parse (hp0 : zy_p M0) (hP0 : zo_P M0 2) (hx : zy_x M0 tx) : ∃ v M', ff_S_parse 9 2 M0 = some (v, M') ∧ zQ_7 M0 tx (zT_parse tx) v M' := by
  have e9 := zP_e9 hp0
  have f4 : zf_F M0 (mm_sI (mm_sI (mm_sI (mm_sI (mm_sI M0 9 2 0) 9 3 (-1)) 2 0 0) 2 1 0) 9 6 0) zy_Ap := by
    exact zf_tr (zf_tr (zf_tr (zf_tr (zf_I (by unfold zy_Ap; omega) _ _) (zf_I (by unfold zy_Ap; omega) _ _)) (zf_I (by unfold zy_Ap; omega) _ _)) (zf_I (by unfold zy_Ap; omega) _ _)) (zf_I (by unfold zy_Ap; omega) _ _)
  have rest : ∃ v M', (ff_S_readToken 9 (mm_sI (mm_sI (mm_sI (mm_sI (mm_sI M0 9 2 0) 9 3 (-1)) 2 0 0) 2 1 0) 9 6 0)).bind (fun M5 => lf_S_parse_27 (fun (M11 : mm_T) => (ff_S_checkExits 9 2 M11).bind fun M12 => (gf_I M12 9 6 2).bind fun x7 => if x7 = 0 then (some ((1 : Int32), M12)) else (some ((0 : Int32), M12))) 9 2 fu_L (0 : Int32) (0 : Int32) M5) = some (v, M') ∧ zQ_7 M0 tx (zT_parse tx) v M' := by
    have hp4 := hp0.keep f4
    have hx4 : zy_x (mm_sI (mm_sI (mm_sI (mm_sI (mm_sI M0 9 2 0) 9 3 (-1)) 2 0 0) 2 1 0) 9 6 0) tx := by
      refine ⟨?_, hx.2.1, fun i hi => ⟨?_, (hx.2.2 i hi).2⟩⟩
      · rw [zm_II, if_neg (by omega), zm_II, if_neg (by omega), zm_II, if_neg (by omega), zm_II, if_neg (by omega), zm_II, if_neg (by omega)]; exact hx.1
      · rw [zm_II, if_neg (by omega), zm_II, if_neg (by omega), zm_II, if_neg (by omega), zm_II, if_neg (by omega), zm_II, if_neg (by omega)]; exact (hx.2.2 i hi).1
    obtain ⟨M5, e5, f5, t5⟩ := zT_readC hp4 hx4 (e := 0) (Nat.zero_le _) (by rw [zm_II, if_pos ⟨rfl, rfl⟩]; rfl)
    have q2 : mm_I (mm_sI (mm_sI (mm_sI (mm_sI (mm_sI M0 9 2 0) 9 3 (-1)) 2 0 0) 2 1 0) 9 6 0) 9 2 = 0 := by
      rw [zm_II, if_neg (by omega), zm_II, if_neg (by omega), zm_II, if_neg (by omega), zm_II, if_neg (by omega), zm_II, if_pos ⟨rfl, rfl⟩]
    have q3 : mm_I (mm_sI (mm_sI (mm_sI (mm_sI (mm_sI M0 9 2 0) 9 3 (-1)) 2 0 0) 2 1 0) 9 6 0) 9 3 = -1 := by
      rw [zm_II, if_neg (by omega), zm_II, if_neg (by omega), zm_II, if_neg (by omega), zm_II, if_pos ⟨rfl, rfl⟩]
    have q4 : mm_I (mm_sI (mm_sI (mm_sI (mm_sI (mm_sI M0 9 2 0) 9 3 (-1)) 2 0 0) 2 1 0) 9 6 0) 2 0 = nI (zp_nb zQ_0) := by
      rw [zm_II, if_neg (by omega), zm_II, if_neg (by omega), zm_II, if_pos ⟨rfl, rfl⟩]; rfl
    have q5 : mm_I (mm_sI (mm_sI (mm_sI (mm_sI (mm_sI M0 9 2 0) 9 3 (-1)) 2 0 0) 2 1 0) 9 6 0) 2 1 = nI (zp_ni zQ_0) := by
      rw [zm_II, if_neg (by omega), zm_II, if_pos ⟨rfl, rfl⟩]; rfl
    have H0 : zQ_H M5 2 zQ_0 0 := ⟨(zf_i f5.1 (by omega) 0).trans q4, (zf_i f5.1 (by omega) 1).trans q5, fun i hi => absurd hi (Nat.not_lt_zero _), fun b hb h1 => absurd h1 (by decide), fun b hb => absurd hb (Nat.not_lt_zero _)⟩
    have V0 : zQ_V zQ_0 0 := ⟨by decide, by decide, rfl, fun b hb => absurd hb (Nat.not_lt_zero _), rfl, by decide, fun b hb => absurd hb (Nat.not_lt_zero _), fun b hb => absurd hb (Nat.not_lt_zero _)⟩
    have S5 : zQ_S M0 M5 tx zQ_0 (fun _ => (0, 0)) 0 0 := ⟨zf_tr f4 (zf_mono f5.1 (fun a z => by unfold zy_Ap; omega)), zT_xk hx4 f5, t5, (f5.2 2 (by omega)).trans q2, (f5.2 3 (by omega)).trans q3, H0, fun b hb => absurd hb (Nat.not_lt_zero _), V0⟩
    rw [e5, Option.bind_some, zs_fuel]
    generalize ek : (fun (M11 : mm_T) => (ff_S_checkExits 9 2 M11).bind fun M12 => (gf_I M12 9 6 2).bind fun x7 => if x7 = 0 then (some ((1 : Int32), M12)) else (some ((0 : Int32), M12))) = k0
    obtain ⟨M6, e6, g6⟩ := zQ_goC hp0 hP0 k0 701 999298 0 false zQ_0 (fun _ => (0, 0)) 0 0 M5 S5 rfl ⟨fun _ => rfl, fun _ => rfl⟩ (Nat.le_refl _) (by have := hx.2.1; omega) hx.2.1
    rw [show (999298 + 701 + 1 : Nat) = 1000000 from rfl, show nI 0 = (0 : Int32) from rfl] at e6
    simp only [Bool.false_eq_true, if_false] at e6
    rw [e6, ← ek]
    show ∃ v M', ((ff_S_checkExits 9 2 M6).bind fun M12 => (gf_I M12 9 6 2).bind fun x7 => if x7 = 0 then (some ((1 : Int32), M12)) else (some ((0 : Int32), M12))) = some (v, M') ∧ _
    unfold ff_S_checkExits zT_parse
    have bad : ∀ {N : mm_T} {a : zT_R}, zQ_E M0 N tx a.1 a.2 → ∃ v M', ((gf_I N 9 6 2).bind fun x7 => if x7 = 0 then (some ((1 : Int32), N)) else (some ((0 : Int32), N))) = some (v, M') ∧ zQ_7 M0 tx (.inr a) v M' := by
      intro N a hE
      rw [zg_I (zP_e9 hE.2.1), Option.bind_some, if_neg hE.2.ne]
      exact ⟨0, N, rfl, rfl, hE.1.1, hE.2.2.1, hE.2.2.2.2.1, hE.2.2.2.2.2.1, hE.2.2.2.2.2.2⟩
    cases er : zT_go tx 701 false zQ_0 (fun _ => (0, 0)) 0 with
    | inl a =>
      rw [er] at g6
      obtain ⟨e, n1, S6⟩ := g6
      have h12 := S6.2.2.2.2.2.2.2.1
      obtain ⟨M7, e7, g7⟩ := zQ_chkC hp0 hP0 S6 (zp_nb a.1) 1000000 0 (by omega) (by omega) (Nat.zero_le _)
      have e7' : lf_S_checkExits_2 9 2 fu_L (0 : Int32) M6 = some M7 := by rw [zs_fuel, show (0 : Int32) = nI 0 from rfl]; exact e7
      rw [zq_gd (zP_e9 (zQ_p hp0 S6)), e7', Option.bind_some]
      show ∃ v M', _ ∧ zQ_7 M0 tx (match zT_chk a.1 a.2 (zp_nb a.1) 0 with | none => .inl a.1 | some r => .inr r) v M'
      cases ec : zT_chk a.1 a.2 (zp_nb a.1) 0 with
      | none =>
        rw [ec] at g7
        have g7' : M7 = M6 := g7
        subst g7'
        rw [zg_I (zP_e9 (zQ_p hp0 S6)), Option.bind_some, S6.2.2.2.1, if_pos rfl]
        have fn := zQ_fin S6 n1 ec
        exact ⟨1, M7, rfl, rfl, S6.1, S6.2.1, S6.2.2.2.1, S6.2.2.2.2.1, fn.1, fn.2⟩
      | some r =>
        rw [ec] at g7
        exact bad g7
    | inr a =>
      rw [er] at g6
      have g6' : zQ_E M0 M6 tx a.1 a.2 := g6
      obtain ⟨n, n12, hn⟩ := g6'.1.2
      have e7 : lf_S_checkExits_2 9 2 fu_L (0 : Int32) M6 = some M6 := by
        rw [zs_fuel, show (0 : Int32) = nI 0 from rfl]
        exact zQ_chkE hP0 g6' n 1000000 0 n n12 hn (by omega) (by omega) (by omega)
      rw [zq_gd (zP_e9 g6'.2.1), e7, Option.bind_some]
      exact bad g6'
  have c : ff_P_clear 2 (mm_sI (mm_sI M0 9 2 0) 9 3 (-1)) = some (mm_sI (mm_sI (mm_sI (mm_sI M0 9 2 0) 9 3 (-1)) 2 0 0) 2 1 0) := by
    have e2 : (mm_k (mm_sI (mm_sI M0 9 2 0) 9 3 (-1)) 2).1 = 7 := zo_e hP0
    have e2' : (mm_k (mm_sI (mm_sI (mm_sI M0 9 2 0) 9 3 (-1)) 2 0 0) 2).1 = 7 := zo_e hP0
    unfold ff_P_clear
    rw [zq_gd e2, zp_I e2, Option.bind_some, zp_I e2', Option.bind_some]
  have e91 : (mm_k (mm_sI M0 9 2 0) 9).1 = 6 := e9
  have e92 : (mm_k (mm_sI (mm_sI (mm_sI (mm_sI M0 9 2 0) 9 3 (-1)) 2 0 0) 2 1 0) 9).1 = 6 := e9
  unfold ff_S_parse
  rw [zq_gd e9, zp_I e9, Option.bind_some, zp_I e91, Option.bind_some, c, Option.bind_some, zp_I e92, Option.bind_some]
  exact rest
end ZLC
