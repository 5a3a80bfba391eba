/-! ===== the reference checks the ways ===== -/
section ZRK
variable {M0 M : mm_T} {tx : (Nat → Nat) × Nat} {Q : zp_T} {F : Nat → Nat × Nat} {e : Nat}
/-- what is read, whether an error is kept or not -/
theorem zR_rd (h : zR_S M0 M tx Q F (zp_nb Q) e) {N : mm_T} (f : zR_F M N) : (mm_k N 52).1 = 11 ∧ ff_M_get 52 0 N = some (nI (zp_nb Q)) ∧ (∀ b, b < zp_nb Q → ff_M_ways 52 (nI b) N = some (nI (zp_w Q b)) ∧ (1 ≤ zp_w Q b → ff_M_way 52 (nI b) (nI 0) N = some (nI (zp_f Q b))) ∧ (zp_w Q b = 2 → ff_M_way 52 (nI b) (nI 1) N = some (nI (zp_s Q b)))) := by
  have W : zt_W N 9 := ⟨h.2.1.1.keep f.1, (f.2 2 (by omega)).trans h.2.2.1, Nat.le_refl _⟩
  have H : zR_H N Q (zp_nb Q) := h.2.2.2.1.keep (fun k => zf_i f.1 (by omega) k)
  have h12 := h.2.2.2.2.2.1
  refine ⟨zt_We W, zR_get0 W H, fun b hb => ⟨?_, fun w => ?_, fun w => ?_⟩⟩
  · unfold ff_M_ways
    rw [zq_gd (zt_We W), show (1 : Int32) = nI 1 from rfl, zt_bl0 W.1 W.2.1 W.2.2 (by omega) (by omega), Option.bind_some, (H.2.2.2.1 b hb).1]
  · unfold ff_M_way
    rw [zq_gd (zt_We W), zq_jp, if_pos (show nI 0 = (0 : Int32) from rfl)]
    show ((ff_M_bl 52 (nI b) (nI 3) N).bind fun x2 => some x2) = _
    rw [zt_bl0 W.1 W.2.1 W.2.2 (by omega) (by omega), Option.bind_some, (H.2.2.2.1 b hb).2.2.1 w]
  · unfold ff_M_way
    rw [zq_gd (zt_We W), zq_jp, if_neg (by decide)]
    show ((ff_M_bl 52 (nI b) (nI 4) N).bind fun x2 => some x2) = _
    rw [zt_bl0 W.1 W.2.1 W.2.2 (by omega) (by omega), Option.bind_some, (H.2.2.2.1 b hb).2.2.2 w]
theorem zR_13E (h : zR_S M0 M tx Q F (zp_nb Q) e) {N : mm_T} {a : zT_R} (f : zR_F M N) (g : zR N tx (.inr a)) {b : Nat} (hb : b < zp_nb Q) (k0 : mm_T → Option mm_T) : ∀ (k fu j : Nat), zp_w Q b - j = k → k + 1 ≤ fu → j ≤ 3 → lf_M_checksWays_13 k0 52 (nI b) fu (nI j) N = k0 N := by
  obtain ⟨e52, r0, rr⟩ := zR_rd h f
  obtain ⟨r1, _⟩ := rr b hb
  have w2 := (h.2.2.2.2.2.2.2.2.2.2.2.1 b hb).1
  intro k
  induction k with
  | zero =>
    intro fu j hk hf hj
    obtain ⟨fu, rfl⟩ : ∃ g, fu = g + 1 := ⟨fu - 1, by omega⟩
    show lb_M_checksWays_13 k0 52 (nI b) (lf_M_checksWays_13 k0 52 (nI b) fu) (nI j) N = _
    unfold lb_M_checksWays_13
    rw [r1, Option.bind_some, if_pos (nI_le (by omega) (by omega))]
  | succ k ih =>
    intro fu j hk hf hj
    obtain ⟨fu, rfl⟩ : ∃ g, fu = g + 1 := ⟨fu - 1, by omega⟩
    show lb_M_checksWays_13 k0 52 (nI b) (lf_M_checksWays_13 k0 52 (nI b) fu) (nI j) N = _
    unfold lb_M_checksWays_13
    rw [r1, Option.bind_some, if_neg (nI_ge (by omega) (by omega)), zg_I e52, Option.bind_some, zq_jp, if_neg (zR_ne g)]
    show ((some (nI j + (1 : Int32))).bind fun x4 => lf_M_checksWays_13 k0 52 (nI b) fu x4 N) = k0 N
    rw [Option.bind_some, nI_1]
    exact ih fu (j + 1) (by omega) (by omega) (by omega)
theorem zR_2E (h : zR_S M0 M tx Q F (zp_nb Q) e) {N : mm_T} {a : zT_R} (f : zR_F M N) (g : zR N tx (.inr a)) : ∀ (k fu b : Nat), zp_nb Q - b = k → k + 1 ≤ fu → b ≤ zp_nb Q → lf_M_checksWays_2 52 fu (nI b) N = some N := by
  obtain ⟨e52, r0, rr⟩ := zR_rd h f
  have h12 := h.2.2.2.2.2.1
  intro k
  induction k with
  | zero =>
    intro fu b hk hf hb
    obtain ⟨fu, rfl⟩ : ∃ g, fu = g + 1 := ⟨fu - 1, by omega⟩
    show lb_M_checksWays_2 52 (lf_M_checksWays_2 52 fu) (nI b) N = _
    unfold lb_M_checksWays_2
    rw [r0, Option.bind_some, if_pos (nI_le (by omega) (by omega))]
  | succ k ih =>
    intro fu b hk hf hb
    obtain ⟨fu, rfl⟩ : ∃ g, fu = g + 1 := ⟨fu - 1, by omega⟩
    have bn : b < zp_nb Q := by omega
    have w2 := (h.2.2.2.2.2.2.2.2.2.2.2.1 b bn).1
    have i13 := zR_13E h f g bn (fun M4 => (some (nI b + (1 : Int32))).bind fun x9 => lf_M_checksWays_2 52 fu x9 M4) (zp_w Q b) 1000000 0 rfl (by omega) (by omega)
    show lb_M_checksWays_2 52 (lf_M_checksWays_2 52 fu) (nI b) N = _
    unfold lb_M_checksWays_2
    rw [r0, Option.bind_some, if_neg (nI_ge bn (by omega)), zs_fuel, show (0 : Int32) = nI 0 from rfl, i13, Option.bind_some, nI_1]
    exact ih fu (b + 1) (by omega) (by omega) (by omega)
/-- an error is told at a way -/
theorem zR_fail (h : zR_S M0 M tx Q F (zp_nb Q) e) {i p : Nat} (hi : i < 24) (hp : mm_I M 61 i = nI p) {β : Type} (K : mm_T → Option β) : ∃ N, ((pf_I M 52 11 16 (4 : Int32)).bind fun M2 => (gf_R M2 52 11 22).bind fun x7 => (ar_I M2 x7 (nI i)).bind fun x8 => (pf_I M2 52 11 17 x8).bind fun M3 => K M3) = K N ∧ zR_F M N ∧ zR N tx (.inr (4, p)) := by
  have e52 := zR_e h.2.1
  have f1 := zR_F_1 M (k := 16) 4 (by omega) (by omega)
  have e1 : (mm_k (mm_sI M 52 16 4) 52).1 = 11 := e52
  have R1 := h.2.1.1.keep f1.1
  have f2 := zR_F_tr f1 (zR_F_1 (mm_sI M 52 16 4) (k := 17) (nI p) (by omega) (by omega))
  have j : mm_I (mm_sI M 52 16 4) 61 i = nI p := by rw [zm_II, if_neg (by omega), hp]
  rw [zp_I e52, Option.bind_some, zg_R e1, Option.bind_some, (zR_r61 R1).1, za_I (zR_r61 R1).2 hi (by omega), Option.bind_some, j, zp_I e1, Option.bind_some]
  have kp : ∀ k, 17 < k → mm_I (mm_sI (mm_sI M 52 16 4) 52 17 (nI p)) 52 k = mm_I M 52 k := fun k hk => by rw [zm_II, if_neg (by omega), zm_II, if_neg (by omega)]
  obtain ⟨hR, hx, ⟨t0, t1, t2, t3, t4⟩, _⟩ := h.2.1
  refine ⟨_, rfl, f2, hR.keep f2.1, ⟨(f2.2 15 (by omega)).trans hx.1, hx.2.1, fun i hi => ⟨(zf_i f2.1 (by omega) i).trans (hx.2.2 i hi).1, (hx.2.2 i hi).2⟩⟩, ⟨e, t0, (kp _ (by omega)).trans t1, (kp _ (by omega)).trans t2, (kp _ (by omega)).trans t3, fun z => (kp _ (by omega)).trans (t4 z)⟩, ?_, ?_, by show 0 < 4; omega, by show 4 < 5; omega⟩
  · rw [zm_II, if_neg (by omega), zm_II, if_pos ⟨rfl, rfl⟩]; rfl
  · rw [zm_II, if_pos ⟨rfl, rfl⟩]
def zR_7 (M : mm_T) (tx : (Nat → Nat) × Nat) (r : Option zT_R) (N : mm_T) : Prop := match r with
  | none => N = M
  | some a => zR_F M N ∧ zR N tx (.inr a)
theorem zR_13 (h : zR_S M0 M tx Q F (zp_nb Q) e) {b : Nat} (hb : b < zp_nb Q) (k0 : mm_T → Option mm_T) (fu : Nat) : ∃ N, lf_M_checksWays_13 k0 52 (nI b) (fu + 1 + 1 + 1) (nI 0) M = k0 N ∧ zR_7 M tx (if 1 ≤ zp_w Q b ∧ zp_nb Q ≤ zp_f Q b then some (4, (F b).1) else if zp_w Q b = 2 ∧ zp_nb Q ≤ zp_s Q b then some (4, (F b).2) else none) N := by
  have f0 := zR_F_rfl M
  obtain ⟨e52, r0, rr⟩ := zR_rd h f0
  obtain ⟨r1, r2, r3⟩ := rr b hb
  have h12 := h.2.2.2.2.2.1
  have z := h.2.1.2.2.2.1
  obtain ⟨w2, wf, ws⟩ := h.2.2.2.2.2.2.2.2.2.2.2.1 b hb
  obtain ⟨t1, t2⟩ := h.2.2.2.2.1 b hb
  show ∃ N, lb_M_checksWays_13 k0 52 (nI b) (lf_M_checksWays_13 k0 52 (nI b) (fu + 1 + 1)) (nI 0) M = k0 N ∧ _
  unfold lb_M_checksWays_13
  rw [r1, Option.bind_some]
  by_cases c0 : zp_w Q b = 0
  · rw [if_pos (nI_le (by omega) (by omega)), if_neg (by omega), if_neg (by omega)]
    exact ⟨M, rfl, rfl⟩
  · have r2' := r2 (by omega)
    have wf' := wf (by omega)
    rw [if_neg (nI_ge (by omega) (by omega)), zg_I e52, Option.bind_some, zq_jp, z, if_pos rfl, r2', Option.bind_some, r0, Option.bind_some]
    by_cases c1 : zp_nb Q ≤ zp_f Q b
    · obtain ⟨N, eN, fN, gN⟩ := zR_fail h (i := 2 * b + 0) (by omega) (t1 (by omega)) (fun M1 => (some (nI 0 + (1 : Int32))).bind fun x4 => lf_M_checksWays_13 k0 52 (nI b) (fu + 1 + 1) x4 M1)
      rw [if_pos (nI_le c1 (by omega)), if_pos ⟨by omega, c1⟩, show (2 : Int32) = nI 2 from rfl, zi_mul, nI_add, eN, Option.bind_some, nI_1, zR_13E h fN gN hb k0 (zp_w Q b - (0 + 1)) (fu + 1 + 1) (0 + 1) rfl (by omega) (by omega)]
      exact ⟨N, rfl, fN, gN⟩
    · rw [if_neg (nI_ge (by omega) (by omega)), if_neg (fun q => c1 q.2)]
      show ∃ N, lb_M_checksWays_13 k0 52 (nI b) (lf_M_checksWays_13 k0 52 (nI b) (fu + 1)) (nI 1) M = k0 N ∧ _
      unfold lb_M_checksWays_13
      rw [r1, Option.bind_some]
      by_cases c2 : zp_w Q b = 1
      · rw [if_pos (nI_le (by omega) (by omega)), if_neg (by omega)]
        exact ⟨M, rfl, rfl⟩
      · have w22 : zp_w Q b = 2 := by omega
        have ws' := ws w22
        rw [if_neg (nI_ge (by omega) (by omega)), zg_I e52, Option.bind_some, zq_jp, z, if_pos rfl, r3 w22, Option.bind_some, r0, Option.bind_some]
        by_cases c3 : zp_nb Q ≤ zp_s Q b
        · obtain ⟨N, eN, fN, gN⟩ := zR_fail h (i := 2 * b + 1) (by omega) (t2 w22) (fun M1 => (some (nI 1 + (1 : Int32))).bind fun x4 => lf_M_checksWays_13 k0 52 (nI b) (fu + 1) x4 M1)
          rw [if_pos (nI_le c3 (by omega)), if_pos ⟨w22, c3⟩, show (2 : Int32) = nI 2 from rfl, zi_mul, nI_add, eN, Option.bind_some, nI_1, zR_13E h fN gN hb k0 (zp_w Q b - (1 + 1)) (fu + 1) (1 + 1) rfl (by omega) (by omega)]
          exact ⟨N, rfl, fN, gN⟩
        · rw [if_neg (nI_ge (by omega) (by omega)), if_neg (fun q => c3 q.2)]
          show ∃ N, lb_M_checksWays_13 k0 52 (nI b) (lf_M_checksWays_13 k0 52 (nI b) fu) (nI 2) M = k0 N ∧ _
          unfold lb_M_checksWays_13
          rw [r1, Option.bind_some, if_pos (nI_le (by omega) (by omega))]
          exact ⟨M, rfl, rfl⟩
theorem zR_chk2 (h : zR_S M0 M tx Q F (zp_nb Q) e) : ∀ (k fu b : Nat), zp_nb Q - b = k → k + 1 ≤ fu → b ≤ zp_nb Q → ∃ N, lf_M_checksWays_2 52 fu (nI b) M = some N ∧ zR_7 M tx (zT_chk Q F k b) N := by
  have f0 := zR_F_rfl M
  obtain ⟨e52, r0, rr⟩ := zR_rd h f0
  have h12 := h.2.2.2.2.2.1
  intro k
  induction k with
  | zero =>
    intro fu b hk hf hb
    obtain ⟨fu, rfl⟩ : ∃ g, fu = g + 1 := ⟨fu - 1, by omega⟩
    show ∃ N, lb_M_checksWays_2 52 (lf_M_checksWays_2 52 fu) (nI b) M = some N ∧ _
    unfold lb_M_checksWays_2
    rw [r0, Option.bind_some, if_pos (nI_le (by omega) (by omega))]
    exact ⟨M, rfl, rfl⟩
  | succ k ih =>
    intro fu b hk hf hb
    obtain ⟨fu, rfl⟩ : ∃ g, fu = g + 1 := ⟨fu - 1, by omega⟩
    have bn : b < zp_nb Q := by omega
    obtain ⟨N, eN, gN⟩ := zR_13 h bn (fun M4 => (some (nI b + (1 : Int32))).bind fun x9 => lf_M_checksWays_2 52 fu x9 M4) 999997
    rw [show (999997 + 1 + 1 + 1 : Nat) = 1000000 from rfl] at eN
    show ∃ N, lb_M_checksWays_2 52 (lf_M_checksWays_2 52 fu) (nI b) M = some N ∧ zR_7 M tx (if 1 ≤ zp_w Q b ∧ zp_nb Q ≤ zp_f Q b then some (4, (F b).1) else if zp_w Q b = 2 ∧ zp_nb Q ≤ zp_s Q b then some (4, (F b).2) else zT_chk Q F k (b + 1)) N
    unfold lb_M_checksWays_2
    rw [r0, Option.bind_some, if_neg (nI_ge bn (by omega)), zs_fuel, show (0 : Int32) = nI 0 from rfl, eN, Option.bind_some, nI_1]
    by_cases c1 : 1 ≤ zp_w Q b ∧ zp_nb Q ≤ zp_f Q b
    · rw [if_pos c1] at gN ⊢
      exact ⟨N, zR_2E h gN.1 gN.2 k fu (b + 1) (by omega) (by omega) (by omega), gN⟩
    · rw [if_neg c1] at gN ⊢
      by_cases c2 : zp_w Q b = 2 ∧ zp_nb Q ≤ zp_s Q b
      · rw [if_pos c2] at gN ⊢
        exact ⟨N, zR_2E h gN.1 gN.2 k fu (b + 1) (by omega) (by omega) (by omega), gN⟩
      · rw [if_neg c2] at gN ⊢
        have gN' : N = M := gN
        subst gN'
        exact ih fu (b + 1) (by omega) (by omega) (by omega)
theorem zR_checks (h : zR_S M0 M tx Q F (zp_nb Q) e) : ∃ N, ff_M_checksWays 52 M = some N ∧ zR_7 M tx (zT_chk Q F (zp_nb Q) 0) N := by
  have h12 := h.2.2.2.2.2.1
  unfold ff_M_checksWays
  rw [zq_gd (zR_e h.2.1), zs_fuel, show (0 : Int32) = nI 0 from rfl]
  exact zR_chk2 h (zp_nb Q) 1000000 0 rfl (by omega) (Nat.zero_le _)
end ZRK
