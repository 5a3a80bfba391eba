/-! ===== the class: Graph ===== -/
theorem zb_wide (x : Int32) {k : Nat} (hk : k < 32) : bl x.toInt64 k = bt x k := by
  unfold bl bt
  rw [Int32.toBitVec_toInt64, BitVec.getLsbD_signExtend]
  simp [hk, show k < 64 by omega]
theorem zb_hasBit {x : Int32} {k : Nat} (hk : k < 32) (M : mm_T) : ff_D_hasBit x.toInt64 (nI k) M = some (zb_B (bt x k)) := by
  rw [zl_hasBit (by omega), zb_wide x hk]
def zp_ed (P : zp_T) (a b : Nat) : Bool := decide (a < zp_nb P) && ((decide (1 ≤ zp_w P a) && decide (zp_f P a = b)) || (decide (2 ≤ zp_w P a) && decide (zp_s P a = b)))
theorem zp_ed_iff {P : zp_T} {a b : Nat} : zp_ed P a b = true ↔ a < zp_nb P ∧ ((1 ≤ zp_w P a ∧ zp_f P a = b) ∨ (2 ≤ zp_w P a ∧ zp_s P a = b)) := by
  unfold zp_ed
  simp only [Bool.and_eq_true, Bool.or_eq_true, decide_eq_true_eq]
theorem zp_ed_way {P : zp_T} (hV : zp_V P) {a b : Nat} : zp_ed P a b = true ↔ a < zp_nb P ∧ ∃ k, k < zp_w P a ∧ b = zp_way P a k := by
  rw [zp_ed_iff]
  constructor
  · rintro ⟨h, ⟨h1, h2⟩ | ⟨h1, h2⟩⟩
    · exact ⟨h, 0, h1, h2.symm⟩
    · exact ⟨h, 1, h1, h2.symm⟩
  · rintro ⟨h, k, h1, h2⟩
    have := zp_w_le hV h
    refine ⟨h, ?_⟩
    unfold zp_way at h2
    by_cases c : k = 0
    · rw [if_pos c] at h2; exact Or.inl ⟨by omega, h2.symm⟩
    · rw [if_neg c] at h2; exact Or.inr ⟨by omega, h2.symm⟩
theorem zp_ed_lt {P : zp_T} (hV : zp_V P) {a b : Nat} (h : zp_ed P a b = true) : a < zp_nb P ∧ b < zp_nb P := by
  obtain ⟨h1, k, h2, rfl⟩ := (zp_ed_way hV).mp h
  exact ⟨h1, zp_way_lt hV h1 h2⟩
/-- the Graph object: 18, its rows 19 to 23 -/
def zk_G (M : mm_T) : Prop := mm_k M 18 = (2, 0) ∧ (mm_R M 18 2 = 19 ∧ mm_R M 18 3 = 20 ∧ mm_R M 18 4 = 21 ∧ mm_R M 18 5 = 22 ∧ mm_R M 18 6 = 23) ∧ mm_k M 19 = (20, 12) ∧ mm_k M 20 = (20, 12) ∧ mm_k M 21 = (20, 12) ∧ mm_k M 22 = (20, 12) ∧ mm_k M 23 = (20, 12)
theorem zk_G.keep {M M' : mm_T} {A : Nat → Prop} (h : zk_G M) (hf : zf_F M M' A) : zk_G M' := by
  unfold zk_G
  simp only [zf_k hf, zf_R hf]
  exact h
def zg_A (a : Nat) : Prop := 18 ≤ a ∧ a ≤ 23
/-- the edges that are read when b blocks and i ways of the next are done -/
def zg_ep (P : zp_T) (b i a c : Nat) : Bool := (decide (a < b) && zp_ed P a c) || (decide (a = b) && ((decide (1 ≤ i) && decide (zp_f P b = c)) || (decide (2 ≤ i) && decide (zp_s P b = c))))
def zg_E (P : zp_T) (b i : Nat) (N : mm_T) : Prop := (∀ a, a < 12 → ∀ c, c < 32 → bt (mm_I N 19 a) c = zg_ep P b i a c) ∧ ∀ c, c < 12 → ∀ a, a < 32 → bt (mm_I N 20 c) a = zg_ep P b i a c
theorem zg_ep0 (P : zp_T) (b a c : Nat) : zg_ep P b 0 a c = (decide (a < b) && zp_ed P a c) := by
  unfold zg_ep
  simp
theorem zg_epw {P : zp_T} (hV : zp_V P) {b : Nat} (hb : b < zp_nb P) (a c : Nat) : zg_ep P b (zp_w P b) a c = zg_ep P (b + 1) 0 a c := by
  rw [zg_ep0]
  unfold zg_ep
  by_cases e : a = b
  · subst e
    unfold zp_ed
    simp [hb]
  · rcases Nat.lt_or_ge a b with q | q
    · simp [q, e, Nat.lt_succ_of_lt q]
    · simp [e, show ¬ a < b by omega, show ¬ a < b + 1 by omega]
theorem zg_eps (P : zp_T) {b i a c : Nat} (hi : i < 2) : zg_ep P b (i + 1) a c = (zg_ep P b i a c || (decide (a = b) && decide (c = zp_way P b i))) := by
  unfold zg_ep zp_way
  rcases Nat.lt_or_ge i 1 with q | q
  · rw [show i = 0 by omega]
    by_cases e : zp_f P b = c
    · subst e; simp
    · simp [e, Ne.symm e]
  · rw [show i = 1 by omega]
    by_cases e : zp_s P b = c
    · subst e; simp [Bool.or_assoc]; cases decide (a = b) <;> simp
    · simp [e, Ne.symm e]
theorem zg_edges {M : mm_T} {P : zp_T} (hG : zk_G M) (hP : zo_P M 45) (hH : zo_H M 45 P) (hV : zp_V P) : ∃ M', ff_G_readEdges 18 45 M = some M' ∧ zf_F M M' (fun x => x = 19 ∨ x = 20) ∧ (∀ a, a < 12 → ∀ c, c < 32 → bt (mm_I M' 19 a) c = zp_ed P a c) ∧ ∀ c, c < 12 → ∀ a, a < 32 → bt (mm_I M' 20 c) a = zp_ed P a c := by
  have hnb := hV.2.1
  have e18 : (mm_k M 18).1 = 2 := by rw [hG.1]
  unfold ff_G_readEdges
  rw [zq_gd e18, zg_R e18, Option.bind_some, hG.2.1.1]
  obtain ⟨M1, e1, f1, -, r1⟩ := zf_fillI hG.2.2.1 (by omega) 0
  rw [e1, Option.bind_some]
  have hG1 := hG.keep f1
  rw [zg_R (by rw [hG1.1]), Option.bind_some, hG1.2.1.2.1]
  obtain ⟨M2, e2, f2, -, r2⟩ := zf_fillI hG1.2.2.2.1 (by omega) 0
  rw [e2, Option.bind_some]
  have f12 : zf_F M M2 (fun x => x = 19 ∨ x = 20) := zf_tr (zf_mono f1 (fun a h => Or.inl h)) (zf_mono f2 (fun a h => Or.inr h))
  have keep : ∀ {N}, zf_F M N (fun x => x = 19 ∨ x = 20) → zk_G N ∧ zo_P N 45 ∧ zo_H N 45 P := fun {N} h => ⟨hG.keep h, hP.keep h, hH.keep (fun a q1 q2 k => zf_i h (by omega) k)⟩
  have hE0 : zg_E P 0 0 M2 := by
    refine ⟨fun a ha c hc => ?_, fun c hc a ha => ?_⟩
    · rw [zf_i f2 (by omega), r1 a, if_pos ha, b_0, zg_ep0]; simp
    · rw [r2 c, if_pos hc, b_0, zg_ep0]; simp
  refine zh_mono (P := fun M' => zf_F M M' (fun x => x = 19 ∨ x = 20) ∧ zg_E P (zp_nb P) 0 M') ?_ (fun M' h => ⟨h.1, fun a ha c hc => ?_, fun c hc a ha => ?_⟩)
  · refine zh_up (F := fun fu i N => lf_G_readEdges_18 18 45 fu i N) (zp_nb P) (fun b N => zf_F M N (fun x => x = 19 ∨ x = 20) ∧ zg_E P b 0 N) ?_ ?_ fu_L 0 M2 (Nat.zero_le _) (by rw [zs_fuel]; omega) ⟨f12, hE0⟩
    · intro fu b N hb ⟨h1, h2⟩ k
      obtain ⟨hG', hP', hH'⟩ := keep h1
      show zh_H (lb_G_readEdges_18 18 45 (lf_G_readEdges_18 18 45 fu) (nI b) N) _
      unfold lb_G_readEdges_18
      rw [zr_blocks hP' hH', Option.bind_some, if_neg (nI_ge hb (by omega))]
      simp only [Option.bind_some, nI_1]
      refine zh_up (F := fun fu i N => lf_G_readEdges_28 _ 18 45 (nI b) fu i N) (zp_w P b) (fun i N => zf_F M N (fun x => x = 19 ∨ x = 20) ∧ zg_E P b i N) ?_ ?_ fu_L 0 N (Nat.zero_le _) (by rw [zs_fuel]; have := zp_w_le hV hb; omega) ⟨h1, h2⟩
      · intro fu' i N hi ⟨h1, h2⟩ k'
        obtain ⟨hG', hP', hH'⟩ := keep h1
        have hw := zp_w_le hV hb
        have hq := zp_way_lt hV hb hi
        have e18' : (mm_k N 18).1 = 2 := by rw [hG'.1]
        have e18s : ∀ v, (mm_k (mm_sI N 19 b v) 18).1 = 2 := fun v => e18'
        have g20 : ∀ v, mm_k (mm_sI N 19 b v) 20 = (20, 12) := fun v => hG'.2.2.2.1
        show zh_H (lb_G_readEdges_28 _ 18 45 (nI b) (lf_G_readEdges_28 _ 18 45 (nI b) fu') (nI i) N) _
        unfold lb_G_readEdges_28
        rw [zr_wayCount hP' hH' hV hb, Option.bind_some, if_neg (nI_ge hi (by omega))]
        simp only [zr_wayOf hP' hH' hV hb hi, zg_R e18', zg_R (e18s _), zm_RI, hG'.2.1.1, hG'.2.1.2.1, Option.bind_some, zd_at hG'.2.2.1 (show b < 12 by omega) (by omega), zd_put hG'.2.2.1 (show b < 12 by omega) (by omega), zd_at (g20 _) (show zp_way P b i < 12 by omega) (by omega), zd_put (g20 _) (show zp_way P b i < 12 by omega) (by omega), nI_1]
        refine k' _ ⟨zf_tr h1 (zf_tr (zf_I (Or.inl rfl) _ _) (zf_I (Or.inr rfl) _ _)), fun a ha c hc => ?_, fun c hc a ha => ?_⟩
        · rw [zm_II, if_neg (by omega), zm_II, zg_eps P (by omega)]
          by_cases e : a = b
          · subst e
            rw [if_pos ⟨rfl, rfl⟩, b_or, h2.1 a ha c hc, zb_one _ (by omega)]
            simp
          · rw [if_neg (fun q => e q.2), h2.1 a ha c hc]
            simp [e]
        · rw [zm_II, zg_eps P (by omega)]
          by_cases e : c = zp_way P b i
          · subst e
            rw [if_pos ⟨rfl, rfl⟩, b_or, zm_II, if_neg (by omega), h2.2 _ hc a ha, zb_one _ (by omega)]
            simp
          · rw [if_neg (fun q => e q.2), zm_II, if_neg (by omega), h2.2 c hc a ha]
            simp [e]
      · intro fu' N ⟨h1, h2⟩
        obtain ⟨hG', hP', hH'⟩ := keep h1
        have hw := zp_w_le hV hb
        show zh_H (lb_G_readEdges_28 _ 18 45 (nI b) (lf_G_readEdges_28 _ 18 45 (nI b) fu') (nI (zp_w P b)) N) _
        unfold lb_G_readEdges_28
        rw [zr_wayCount hP' hH' hV hb, Option.bind_some, if_pos (nI_le (Nat.le_refl _) (by omega))]
        exact k _ ⟨h1, fun a ha c hc => by rw [← zg_epw hV hb]; exact h2.1 a ha c hc, fun c hc a ha => by rw [← zg_epw hV hb]; exact h2.2 c hc a ha⟩
    · intro fu N ⟨h1, h2⟩
      obtain ⟨hG', hP', hH'⟩ := keep h1
      show zh_H (lb_G_readEdges_18 18 45 (lf_G_readEdges_18 18 45 fu) (nI (zp_nb P)) N) _
      unfold lb_G_readEdges_18
      rw [zr_blocks hP' hH', Option.bind_some, if_pos (nI_le (Nat.le_refl _) (by omega))]
      exact zh_some ⟨h1, h2⟩
  · rw [h.2.1 a ha c hc, zg_ep0]
    by_cases q : a < zp_nb P
    · simp [q]
    · unfold zp_ed; simp [q]
  · rw [h.2.2 c hc a ha, zg_ep0]
    by_cases q : a < zp_nb P
    · simp [q]
    · unfold zp_ed; simp [q]
/-- the union of those rows whose numbers stand in a set -/
theorem zg_union {M : mm_T} {a : Nat} (h : mm_k M a = (20, 12)) (S : Int32) : ∃ x, ff_G_union a S M = some x ∧ ∀ y, y < 32 → (bt x y = true ↔ ∃ b, b < 12 ∧ bt S b = true ∧ bt (mm_I M a b) y = true) := by
  unfold ff_G_union
  refine zh_up (F := fun fu i (x : Int32) => lf_G_union_4 a S M fu x i) (Q := fun x => ∀ y, y < 32 → (bt x y = true ↔ ∃ b, b < 12 ∧ bt S b = true ∧ bt (mm_I M a b) y = true)) 12 (fun i x => ∀ y, y < 32 → (bt x y = true ↔ ∃ b, b < i ∧ bt S b = true ∧ bt (mm_I M a b) y = true)) ?_ ?_ fu_L 0 0 (Nat.zero_le _) (by rw [zs_fuel]; omega) (fun y hy => by rw [b_0]; simp)
  · intro fu i x hi hx k
    show zh_H (lb_G_union_4 a S M (lf_G_union_4 a S M fu) x (nI i)) _
    unfold lb_G_union_4
    rw [if_neg (show ¬ (12 : Int32) ≤ nI i from nI_ge (b := 12) hi (by omega)), zb_hasBit (by omega), Option.bind_some]
    simp only [zq_jp, zb_0, Option.bind_some, nI_1, zd_at h hi (by omega)]
    have step : ∀ (z : Int32), (∀ y, y < 32 → (bt z y = true ↔ (bt S i = true ∧ bt (mm_I M a i) y = true))) → ∀ y, y < 32 → (bt (x ||| z) y = true ↔ ∃ b, b < i + 1 ∧ bt S b = true ∧ bt (mm_I M a b) y = true) := by
      intro z hz y hy
      rw [b_or, Bool.or_eq_true, hx y hy, hz y hy]
      constructor
      · rintro (⟨b, h1, h2⟩ | h1)
        · exact ⟨b, by omega, h2⟩
        · exact ⟨i, by omega, h1⟩
      · rintro ⟨b, h1, h2⟩
        rcases Nat.lt_or_ge b i with c | c
        · exact Or.inl ⟨b, c, h2⟩
        · rw [show b = i by omega] at h2; exact Or.inr h2
    cases e : bt S i with
    | false =>
      rw [if_pos rfl]
      exact k _ (step 0 (fun y hy => by rw [b_0, e]; simp))
    | true =>
      rw [if_neg (by simp)]
      exact k _ (step _ (fun y hy => by rw [e]; simp))
  · intro fu x hx
    show zh_H (lb_G_union_4 a S M (lf_G_union_4 a S M fu) x (nI 12)) _
    unfold lb_G_union_4
    rw [if_pos (show (12 : Int32) ≤ nI 12 from nI_le (a := 12) (Nat.le_refl _) (by omega))]
    exact zh_some hx
/-- growing sets of twelve are still after eleven steps -/
theorem zg_still (S : Nat → Nat → Bool) {x0 : Nat} (hx0 : x0 < 12) (h0 : S 0 x0 = true) (hm : ∀ n x, S n x = true → S (n + 1) x = true) (hs : ∀ n, (∀ x, x < 12 → S (n + 1) x = S n x) → ∀ x, x < 12 → S (n + 2) x = S (n + 1) x) : ∀ x, x < 12 → S 12 x = S 11 x := by
  have stay : ∀ n, (∀ x, x < 12 → S (n + 1) x = S n x) → ∀ k x, x < 12 → S (n + 1 + k) x = S (n + k) x := by
    intro n hn k
    induction k with
    | zero => exact hn
    | succ k ih =>
      rw [show n + 1 + (k + 1) = n + k + 2 by omega, show n + (k + 1) = n + k + 1 by omega]
      exact hs (n + k) (by rw [Nat.add_right_comm]; exact ih)
  refine Classical.byContradiction fun hne => ?_
  have uns : ∀ n, n ≤ 11 → ∃ x, x < 12 ∧ S n x = false ∧ S (n + 1) x = true := by
    intro n hn
    refine Classical.byContradiction fun hno => hne ?_
    have h1 : ∀ x, x < 12 → S (n + 1) x = S n x := by
      intro x hx
      cases e : S n x with
      | true => exact hm n x e
      | false =>
        cases e2 : S (n + 1) x with
        | false => rfl
        | true => exact absurd ⟨x, hx, e, e2⟩ hno
    have h2 := stay n h1 (11 - n)
    rw [show n + 1 + (11 - n) = 12 by omega, show n + (11 - n) = 11 by omega] at h2
    exact h2
  have grow : ∀ n, n ≤ 12 → n + 1 ≤ fb_ct (S n) 12 := by
    intro n
    induction n with
    | zero => intro _; exact fb_ct_pos.mpr ⟨x0, hx0, h0⟩
    | succ n ih =>
      intro hn
      obtain ⟨x, h1, h2, h3⟩ := uns n (by omega)
      have := zs_ctlt (p := S n) (q := S (n + 1)) (n := 12) (fun k _ hk => hm n k hk) h1 h2 h3
      have := ih (by omega)
      omega
  have h1 := grow 12 (by omega)
  have h2 := fb_ct_le (S 12) 12
  omega
