/-! ===== the class's exits ===== -/
section ZXC
variable {M0 M : mm_T} {tx : (Nat → Nat) × Nat} {Q : zp_T} {F : Nat → Nat × Nat} {m e : Nat}
def zQ_4 (M0 : mm_T) (tx : (Nat → Nat) × Nat) (Q : zp_T) (F : Nat → Nat × Nat) (m : Nat) (r : ((Nat × Nat × Nat × Nat) × (Nat × Nat) × Nat) ⊕ zT_R) (M' : mm_T) : Prop := match r with
  | .inl a => zQ_S M0 M' tx (zp_setx Q (zp_nb Q - 1) a.1) (fun b => if b = zp_nb Q - 1 then a.2.1 else F b) (m + 1) a.2.2
  | .inr a => zQ_E M0 M' tx a.1 a.2
def zQ_3 (M0 : mm_T) (tx : (Nat → Nat) × Nat) (m : Nat) (r : (zp_T × (Nat → Nat × Nat) × Nat) ⊕ zT_R) (M' : mm_T) : Prop := match r with
  | .inl a => zQ_S M0 M' tx a.1 a.2.1 m a.2.2
  | .inr a => zQ_E M0 M' tx a.1 a.2
/-- where a target stood is kept -/
theorem zQ_put8 (hp : zy_p M) {i : Nat} (hi : i < 12) {β : Type} (K : mm_T → Option β) : ((gf_R M 9 6 8).bind fun x6 => (gf_I M 9 6 5).bind fun x7 => (ff_D_put_a x6 (nI i) x7 M).bind K) = K (mm_sI M 11 i (mm_I M 9 5)) := by
  rw [zg_R (zP_e9 hp), Option.bind_some, zg_I (zP_e9 hp), Option.bind_some, hp.2.1.2.1, zd_put hp.2.2.2.1 hi (by omega), Option.bind_some]
theorem zQ_put9 (hp : zy_p M) {i : Nat} (hi : i < 12) {β : Type} (K : mm_T → Option β) : ((gf_R M 9 6 9).bind fun x6 => (gf_I M 9 6 5).bind fun x7 => (ff_D_put_a x6 (nI i) x7 M).bind K) = K (mm_sI M 12 i (mm_I M 9 5)) := by
  rw [zg_R (zP_e9 hp), Option.bind_some, zg_I (zP_e9 hp), Option.bind_some, hp.2.1.2.2, zd_put hp.2.2.2.2 hi (by omega), Option.bind_some]
/-- told positions, above the closed blocks -/
theorem zQ_S8 (h : zQ_S M0 M tx Q F m e) {i : Nat} (hi : m ≤ i) (v : Int32) {a : Nat} (ha : a = 11 ∨ a = 12) : zQ_S M0 (mm_sI M a i v) tx Q F m e := by
  have f : zf_F M (mm_sI M a i v) (fun x => x = a) := zf_I (A := fun x => x = a) rfl _ _
  refine zQ_Sk h f (fun x z => by omega) (h.2.2.2.2.2.1.keep (fun x q1 q2 k => zf_i f (by omega) k)) (fun b hb => ?_) h.2.2.2.2.2.2.2
  rw [zm_II, if_neg (by omega), zm_II, if_neg (by omega)]
  exact h.2.2.2.2.2.2.1 b hb
theorem zQ_E8 {c p : Nat} (h : zQ_E M0 M tx c p) (i : Nat) (v : Int32) {a : Nat} (ha : a = 11 ∨ a = 12) : zQ_E M0 (mm_sI M a i v) tx c p :=
  zQ_Ek h (zf_I (A := fun x => x = a) rfl _ _) (fun x z => by omega) (by rw [zm_II, if_neg (by omega)])
theorem zQ_ex1E {c p : Nat} (hP0 : zo_P M0 2) (h : zQ_E M0 M tx c p) {i : Nat} (hi : i < 12) (y : Int32) : ∃ M', ((ff_P_exitByGoto 2 (nI i) y M).bind fun M12 => some M12) = some M' ∧ zQ_E M0 M' tx c p := by
  obtain ⟨M1, e1, f1, k1, _⟩ := zQ_ex1 (hP0.keep h.1.1) hi y
  rw [e1, Option.bind_some]
  exact ⟨M1, rfl, zQ_Ek h f1 (fun a z => by unfold zo_A at z; omega) (k1 2 0 (by omega))⟩
theorem zQ_ex2E {c p : Nat} (hP0 : zo_P M0 2) (h : zQ_E M0 M tx c p) {i : Nat} (hi : i < 12) (v y z : Int32) : ∃ M', ((ff_P_exitByBranch 2 (nI i) v y z M).bind fun M8 => some M8) = some M' ∧ zQ_E M0 M' tx c p := by
  obtain ⟨M1, e1, f1, k1, _⟩ := zQ_ex2 (hP0.keep h.1.1) hi v y z
  rw [e1, Option.bind_some]
  exact ⟨M1, rfl, zQ_Ek h f1 (fun a z => by unfold zo_A at z; omega) (k1 2 0 (by omega))⟩
/-- the block is closed -/
theorem zQ_done (h : zQ_S M0 M tx Q F m e) (hm : m + 1 = zp_nb Q) {q : Nat × Nat × Nat × Nat} (hq : q.1 ≤ 2 ∧ (1 ≤ q.1 → q.2.2.1 ≤ 11) ∧ (q.1 = 2 → q.2.1 < 8 ∧ q.2.2.2 ≤ 11)) {u : Nat × Nat} (g1 : 1 ≤ q.1 → mm_I M 11 m = nI u.1) (g2 : q.1 = 2 → mm_I M 12 m = nI u.2) {M' : mm_T} (f : zf_F M M' (zo_A 2)) (hk : ∀ a k, (a < 5 ∨ 8 < a) ∨ k ≠ m → mm_I M' a k = mm_I M a k) (h3 : mm_I M' 5 m = nI q.1) (h4 : q.1 = 2 → mm_I M' 6 m = nI q.2.1) (h5 : 1 ≤ q.1 → mm_I M' 7 m = nI q.2.2.1) (h6 : q.1 = 2 → mm_I M' 8 m = nI q.2.2.2) : zQ_S M0 M' tx (zp_setx Q (zp_nb Q - 1) q) (fun b => if b = zp_nb Q - 1 then u else F b) (m + 1) e := by
  have em : zp_nb Q - 1 = m := by omega
  have H := zQ_close (M' := M') h.2.2.2.2.2.1 hm (q := q) (fun a k z => hk a k (by omega)) (by rw [em]; exact h3) (by rw [em]; exact h4) (by rw [em]; exact h5) (by rw [em]; exact h6)
  refine zQ_Sk h f (fun a z => by unfold zo_A at z; omega) H (fun b hb => ?_) (zQ_setx_V h.2.2.2.2.2.2.2 hm hq)
  rw [hk 11 b (by omega), hk 12 b (by omega)]
  have ew : zp_w (zp_setx Q (zp_nb Q - 1) q) b = (if b = zp_nb Q - 1 then q else Q.2.2.2.1 b).1 := rfl
  rw [ew]
  by_cases c : b = zp_nb Q - 1
  · rw [if_pos c, c, em]
    simp only [if_true]
    exact ⟨g1, g2⟩
  · rw [if_neg c]
    simp only [if_neg c]
    exact h.2.2.2.2.2.2.1 b (by omega)
theorem zQ_takeK {β : Type} {X : Option (Int32 × mm_T)} {r : (Nat × Nat) ⊕ zT_R} (hp0 : zy_p M0) (h : zQ_S M0 M tx Q F m e) (hX : zP_V X M tx r) (her : ∀ a, r = .inr a → 0 < a.1 ∧ a.1 < 5) {K : Int32 → mm_T → Option mm_T} {k : Nat × Nat → β ⊕ zT_R} {G : β ⊕ zT_R → mm_T → Prop} (hok : ∀ a M', r = .inl a → zQ_S M0 M' tx Q F m a.2 → (∀ x k, x ≠ 9 → mm_I M' x k = mm_I M x k) → ∃ M2, K (nI a.1) M' = some M2 ∧ G (k a) M2) (hbad : ∀ a w M', r = .inr a → zQ_E M0 M' tx a.1 a.2 → ∃ M2, K w M' = some M2 ∧ G (.inr a) M2) : ∃ M2, bd_2 X K = some M2 ∧ G (zT_bind r k) M2 := by
  unfold bd_2
  cases r with
  | inl a =>
    obtain ⟨M', e1, f1, t1⟩ := hX
    obtain ⟨M2, e2, g2⟩ := hok a M' rfl (zQ_ofFC h f1 t1) (fun x k z => zf_i f1.1 z k)
    rw [e1, Option.bind_some]
    exact ⟨M2, e2, g2⟩
  | inr a =>
    obtain ⟨w, M', e1, x1⟩ := hX
    have h5 := her a rfl
    obtain ⟨M2, e2, g2⟩ := hbad a w M' rfl (zQ_ofX hp0 h x1 h5.1 h5.2)
    rw [e1, Option.bind_some]
    exact ⟨M2, e2, g2⟩
theorem zQ_exitC (hp0 : zy_p M0) (hP0 : zo_P M0 2) (h : zQ_S M0 M tx Q F m e) (hm : m + 1 = zp_nb Q) : ∃ M', ff_S_parseExit 9 2 (nI m) M = some M' ∧ zQ_4 M0 tx Q F m (zT_ex tx e) M' := by
  have hp := zQ_p hp0 h
  have hV := h.2.2.2.2.2.2.2
  have h12 := hV.1
  have m12 : m < 12 := by omega
  have e9 := zP_e9 hp
  unfold ff_S_parseExit zT_ex
  rw [zq_gd e9]
  simp only [zT_isWC hp h.2.1 h.2.2.1 (show 9 < 31 by omega), zT_isWC hp h.2.1 h.2.2.1 (show 10 < 31 by omega), zT_isWC hp h.2.1 h.2.2.1 (show 11 < 31 by omega), Option.bind_some, zb_0, decide_eq_false_iff_not]
  obtain ⟨M1, e1, f1, t1⟩ := zT_readC' hp h.2.1 h.2.2.1
  have S1 := zQ_ofFC h f1 t1
  have P1 := zQ_p hp0 S1
  rw [e1]
  by_cases c9 : zT_W tx e 9
  · rw [if_neg (fun z => z c9), if_pos c9, Option.bind_some]
    obtain ⟨M2, e2, f2, k2, v2⟩ := zQ_ex0 (hP0.keep S1.1) m12
    rw [e2, Option.bind_some]
    exact ⟨M2, rfl, zQ_done S1 hm (q := (0, 0, 0, 0)) (u := (0, 0)) (by refine ⟨?_, ?_, ?_⟩ <;> intros <;> simp_all) (fun z => by simp at z) (fun z => by simp at z) f2 (fun a k z => k2 a k (by omega)) v2 (fun z => by simp at z) (fun z => by simp at z) (fun z => by simp at z)⟩
  · rw [if_pos c9, if_neg c9]
    by_cases c10 : zT_W tx e 10
    · rw [if_neg (fun z => z c10), if_pos c10, Option.bind_some, zQ_put8 P1 m12]
      have S2 := zQ_S8 S1 (Nat.le_refl m) (mm_I M1 9 5) (Or.inl rfl)
      refine zQ_takeK hp0 S2 (zP_num (m := 11) (zQ_p hp0 S2) S2.2.1 S2.2.2.1 S2.2.2.2.1 (by omega)) (fun a => zT_num_er) (G := zQ_4 M0 tx Q F m) (fun a Ma ha Sa ka => ?_) (fun a w Ma ha Ea => zQ_ex1E hP0 Ea m12 _)
      have oa := zT_num_ok S2.2.2.1.1 ha
      obtain ⟨M3, e3, f3, k3, v3, w3⟩ := zQ_ex1 (hP0.keep Sa.1) m12 (nI a.1)
      rw [e3, Option.bind_some]
      refine ⟨M3, rfl, zQ_done Sa hm (q := (1, 0, a.1, 0)) (u := (zT_s' tx (zT_e tx e), 0)) ⟨by show 1 ≤ 2; omega, fun _ => oa.1, fun z => absurd z (by show ¬ (1 : Nat) = 2; omega)⟩ (fun _ => ?_) (fun z => absurd z (by show ¬ (1 : Nat) = 2; omega)) f3 (fun a k z => k3 a k (by omega)) v3 (fun z => absurd z (by show ¬ (1 : Nat) = 2; omega)) (fun _ => w3) (fun z => absurd z (by show ¬ (1 : Nat) = 2; omega))⟩
      rw [ka 11 m (by omega), zm_II, if_pos ⟨rfl, rfl⟩, S1.2.2.1.2.2.1]
    · rw [if_pos c10, if_neg c10]
      by_cases c11 : zT_W tx e 11
      · rw [if_neg (fun z => z c11), if_pos c11, Option.bind_some]
        refine zQ_takeK hp0 S1 (zP_var P1 S1.2.1 S1.2.2.1 S1.2.2.2.1) (fun a => zT_var_er) (G := zQ_4 M0 tx Q F m) (fun a Ma ha Sa ka => ?_) (fun a w Ma ha Ea => ?_)
        · have oa := zT_var_ok S1.2.2.1.1 ha
          rw [zQ_put8 (zQ_p hp0 Sa) m12]
          have S2 := zQ_S8 Sa (Nat.le_refl m) (mm_I Ma 9 5) (Or.inl rfl)
          refine zQ_takeK hp0 S2 (zP_num (m := 11) (zQ_p hp0 S2) S2.2.1 S2.2.2.1 S2.2.2.2.1 (by omega)) (fun a => zT_num_er) (G := zQ_4 M0 tx Q F m) (fun b Mb hb Sb kb => ?_) (fun b w Mb hb Eb => ?_)
          · have ob := zT_num_ok S2.2.2.1.1 hb
            rw [zQ_put9 (zQ_p hp0 Sb) m12]
            have S3 := zQ_S8 Sb (Nat.le_refl m) (mm_I Mb 9 5) (Or.inr rfl)
            refine zQ_takeK hp0 S3 (zP_num (m := 11) (zQ_p hp0 S3) S3.2.1 S3.2.2.1 S3.2.2.2.1 (by omega)) (fun a => zT_num_er) (G := zQ_4 M0 tx Q F m) (fun c Mc hc Sc kc => ?_) (fun c w Mc hc Ec => zQ_ex2E hP0 Ec m12 _ _ _)
            have oc := zT_num_ok S3.2.2.1.1 hc
            obtain ⟨M3, e3, f3, k3, v3, w3, y3, z3⟩ := zQ_ex2 (hP0.keep Sc.1) m12 (nI a.1) (nI b.1) (nI c.1)
            rw [e3, Option.bind_some]
            refine ⟨M3, rfl, zQ_done Sc hm (q := (2, a.1, b.1, c.1)) (u := (zT_s' tx a.2, zT_s' tx b.2)) ⟨Nat.le_refl 2, fun _ => ob.1, fun _ => ⟨oa.1, oc.1⟩⟩ (fun _ => ?_) (fun _ => ?_) f3 (fun a k z => k3 a k (by omega)) v3 (fun _ => w3) (fun _ => y3) (fun _ => z3)⟩
            · rw [kc 11 m (by omega), zm_II, if_neg (by omega), kb 11 m (by omega), zm_II, if_pos ⟨rfl, rfl⟩, Sa.2.2.1.2.2.1]
            · rw [kc 12 m (by omega), zm_II, if_pos ⟨rfl, rfl⟩, Sb.2.2.1.2.2.1]
          · rw [zQ_put9 Eb.2.1 m12]
            exact zQ_takeE (zQ_E8 Eb m _ (Or.inr rfl)) (zP_numD (zQ_E8 Eb m _ (Or.inr rfl)).2 11) (fun w Mc Ec => zQ_ex2E hP0 Ec m12 _ _ _)
        · rw [zQ_put8 Ea.2.1 m12]
          refine zQ_takeE (zQ_E8 Ea m _ (Or.inl rfl)) (zP_numD (zQ_E8 Ea m _ (Or.inl rfl)).2 11) (fun w Mb Eb => ?_)
          rw [zQ_put9 Eb.2.1 m12]
          exact zQ_takeE (zQ_E8 Eb m _ (Or.inr rfl)) (zP_numD (zQ_E8 Eb m _ (Or.inr rfl)).2 11) (fun w Mc Ec => zQ_ex2E hP0 Ec m12 _ _ _)
      · obtain ⟨M1, e1, x1⟩ := zP_fail hp h.2.1 h.2.2.1 h.2.2.2.1 1 (zT_s' tx e)
        have e1' : ff_S_fail 9 1 (nI (zT_s' tx e)) M = some M1 := e1
        rw [if_pos c11, if_neg c11, zg_I e9, Option.bind_some, h.2.2.1.2.2.1, e1', Option.bind_some]
        exact ⟨M1, rfl, zQ_ofX hp0 h x1 (by omega) (by omega)⟩
theorem zQ_exit (hp0 : zy_p M0) (hP0 : zo_P M0 2) (h : zQ_S M0 M tx Q F m e) (hm : m + 1 = zp_nb Q) : ∃ M', ((ff_S_parseExit 9 2 (nI m) M).bind fun M8 => ff_S_takeSemicolon 9 M8) = some M' ∧ zQ_3 M0 tx (m + 1) (zT_exit tx Q F e) M' := by
  obtain ⟨M1, e1, g1⟩ := zQ_exitC hp0 hP0 h hm
  unfold zT_exit
  rw [e1, Option.bind_some]
  cases er : zT_ex tx e with
  | inl a =>
    rw [er] at g1
    have g1' : zQ_S M0 M1 tx (zp_setx Q (zp_nb Q - 1) a.1) (fun b => if b = zp_nb Q - 1 then a.2.1 else F b) (m + 1) a.2.2 := g1
    obtain ⟨M2, e2, g2⟩ := zQ_sem hp0 g1'
    refine ⟨M2, e2, ?_⟩
    show zQ_3 M0 tx (m + 1) (zT_bind (zT_sem tx a.2.2) _) M2
    cases es : zT_sem tx a.2.2 with
    | inl x => rw [es] at g2; exact g2
    | inr x => rw [es] at g2; exact g2
  | inr a =>
    rw [er] at g1
    have g1' : zQ_E M0 M1 tx a.1 a.2 := g1
    obtain ⟨M2, e2, g2⟩ := zQ_semE g1'
    exact ⟨M2, e2, g2⟩
end ZXC
