/-! ===== the reference: available expressions ===== -/
theorem zs_fix2 {ρ : Type} {Fin : Nat → (Int32 → mm_T → Option ρ) → Nat → Int32 → Nat → mm_T → Option ρ} {Fout : Nat → Int32 → Nat → mm_T → Option ρ} {k0 : mm_T → Option ρ} {Q : ρ → Prop} (n B : Nat) (Inv : mm_T → Prop) (St : Nat → mm_T → Prop) (μ : mm_T → Nat) (T : Nat → mm_T → Bool → mm_T → Prop)
    (hin : ∀ r cont fu q i N, (q = 0 ∨ q = 1) → i < n → Inv N → (∀ c N', T i N c N' → zh_H (Fin r cont fu (if c = true then 1 else q) (i + 1) N') Q) → zh_H (Fin r cont (fu + 1) q i N) Q)
    (hine : ∀ r cont fu q N, Inv N → Fin r cont (fu + 1) q n N = cont q N)
    (hT : ∀ i N c N', i < n → Inv N → T i N c N' → Inv N' ∧ (c = true → μ N' < μ N) ∧ (c = false → μ N' ≤ μ N ∧ St i N' ∧ ∀ j, j < n → St j N → St j N'))
    (hout0 : ∀ fu r N, Fout (fu + 1) 0 r N = k0 N)
    (hout1 : ∀ fu r N, r < 100000 → Fout (fu + 1) 1 r N = Fin r (fun q' N' => Fout fu q' (r + 1) N') fu_L 0 0 N)
    (hn : n < fu_L) (hB : B < 100000)
    (hk : ∀ N, Inv N → (∀ i, i < n → St i N) → zh_H (k0 N) Q) :
    ∀ fu r N, Inv N → r + μ N ≤ B → B + 1 - r < fu → zh_H (Fout fu 1 r N) Q := by
  intro fu
  induction fu with
  | zero => intro r N _ _ h; exact absurd h (Nat.not_lt_zero _)
  | succ fu ih =>
    intro r N hI hr hf
    rw [hout1 fu r N (by omega)]
    have key : ∀ fu' i q N', i ≤ n → n - i < fu' → Inv N' → μ N' ≤ μ N → ((q = 0 ∧ ∀ j, j < i → St j N') ∨ (q = 1 ∧ μ N' < μ N)) → zh_H (Fin r (fun q' N' => Fout fu q' (r + 1) N') fu' q i N') Q := by
      intro fu'
      induction fu' with
      | zero => intro i q N' _ h; exact absurd h (Nat.not_lt_zero _)
      | succ fu' ih' =>
        intro i q N' hi hf' hI' hμ hq
        by_cases e : i = n
        · subst e
          rw [hine _ _ _ _ _ hI']
          rcases hq with ⟨rfl, hq⟩ | ⟨rfl, hq⟩
          · obtain ⟨fu2, rfl⟩ : ∃ x, fu = x + 1 := ⟨fu - 1, by omega⟩
            show zh_H (Fout (fu2 + 1) 0 (r + 1) N') Q
            rw [hout0]
            exact hk N' hI' hq
          · exact ih (r + 1) N' hI' (by omega) (by omega)
        · have hi2 : i < n := by omega
          refine hin r _ fu' q i N' (hq.elim (fun z => Or.inl z.1) (fun z => Or.inr z.1)) hi2 hI' (fun c N2 hc => ?_)
          obtain ⟨t1, t2, t3⟩ := hT i N' c N2 hi2 hI' hc
          cases c with
          | true =>
            have := t2 rfl
            exact ih' (i + 1) 1 N2 (by omega) (by omega) t1 (by omega) (Or.inr ⟨rfl, by omega⟩)
          | false =>
            obtain ⟨t4, t5, t6⟩ := t3 rfl
            refine ih' (i + 1) q N2 (by omega) (by omega) t1 (by omega) ?_
            rcases hq with ⟨rfl, hq⟩ | ⟨rfl, hq⟩
            · refine Or.inl ⟨rfl, fun j hj => ?_⟩
              rcases Nat.lt_or_ge j i with c | c
              · exact t6 j (by omega) (hq j c)
              · rw [show j = i by omega]; exact t5
            · exact Or.inr ⟨rfl, by omega⟩
    exact key fu_L 0 0 N (Nat.zero_le _) (by omega) hI (Nat.le_refl _) (Or.inl ⟨rfl, fun j hj => absurd hj (Nat.not_lt_zero _)⟩)
/-- the expression of c goes through n instructions from a on -/
def zp_sm (P : zp_T) (c k : Nat) : Bool := decide (zp_k P k = 2) && (decide (zp_l P c = zp_l P k) && (decide (zp_o P c = zp_o P k) && decide (zp_r P c = zp_r P k)))
def zp_kl (P : zp_T) (c k : Nat) : Bool := decide (zp_df P k = some (zp_l P c)) || decide (zp_df P k = some (zp_r P c))
def zp_cy (P : zp_T) (c a : Nat) (s : Bool) : Nat → Bool
  | 0 => s
  | n + 1 => (zp_cy P c a s n || zp_sm P c (a + n)) && !zp_kl P c (a + n)
theorem zp_cy_m {P : zp_T} {c a : Nat} {s t : Bool} (h : s = true → t = true) : ∀ n, zp_cy P c a s n = true → zp_cy P c a t n = true
  | 0, q => h q
  | n + 1, q => by
    have q : ((zp_cy P c a s n || zp_sm P c (a + n)) && !zp_kl P c (a + n)) = true := q
    show ((zp_cy P c a t n || zp_sm P c (a + n)) && !zp_kl P c (a + n)) = true
    rw [Bool.and_eq_true, Bool.or_eq_true] at q ⊢
    exact ⟨q.1.imp (zp_cy_m h n) id, q.2⟩
theorem zp_xp_eq {P : zp_T} (hV : zp_V P) {i j : Nat} (hi : i < zp_ni P) (hj : j < zp_ni P) (ki : zp_k P i = 2) (kj : zp_k P j = 2) : zp_xp P i = zp_xp P j ↔ zp_l P i = zp_l P j ∧ zp_o P i = zp_o P j ∧ zp_r P i = zp_r P j := by
  have qi := hV.2.2.2.2.2.2.2 i hi
  have qj := hV.2.2.2.2.2.2.2 j hj
  have a1 : zp_l P i < 8 := qi.2.2.2.1 (show (P.2.2.2.2 i).1 ≠ 0 by show zp_k P i ≠ 0; omega)
  have a2 : zp_l P j < 8 := qj.2.2.2.1 (show (P.2.2.2.2 j).1 ≠ 0 by show zp_k P j ≠ 0; omega)
  have a3 : zp_r P i < 8 := qi.2.2.2.2.2
  have a4 : zp_r P j < 8 := qj.2.2.2.2.2
  unfold zp_xp
  omega
theorem zp_sm_GN {P : zp_T} (hV : zp_V P) {c k : Nat} (hc : c < zp_ni P) (kc : zp_k P c = 2) (hk : k < zp_ni P) : zp_sm P c k = true ↔ zp_GN P k (zp_nm P c) := by
  unfold zp_sm zp_GN
  simp only [Bool.and_eq_true, decide_eq_true_eq]
  constructor
  · rintro ⟨h1, h2, h3, h4⟩
    refine ⟨hk, h1, ?_⟩
    have e : zp_xp P k = zp_xp P c := (zp_xp_eq hV hk hc h1 kc).mpr ⟨h2.symm, h3.symm, h4.symm⟩
    unfold zp_nm
    have : zp_sx P k = zp_sx P c := by funext j; unfold zp_sx; rw [e]
    rw [this]
  · rintro ⟨_, h1, h2⟩
    have e1 := (zp_nm_self hk h1).2.2
    have e2 := (zp_nm_self hc kc).2.2
    rw [h2, e2] at e1
    have := (zp_xp_eq hV hc hk kc h1).mp e1
    exact ⟨h1, this.1, this.2.1, this.2.2⟩
theorem zp_kl_KL {P : zp_T} (hV : zp_V P) {c k : Nat} (hc : c < zp_ni P) (kc : zp_k P c = 2) : zp_kl P c k = true ↔ zp_KL P k (zp_nm P c) := by
  unfold zp_kl zp_KL zp_NW
  simp only [Bool.or_eq_true, decide_eq_true_eq]
  constructor
  · rintro (h | h)
    · exact ⟨_, h, c, hc, kc, rfl, Or.inl rfl⟩
    · exact ⟨_, h, c, hc, kc, rfl, Or.inr rfl⟩
  · rintro ⟨v, h1, i, h2, h3, h4, h5⟩
    have e1 := (zp_nm_self h2 h3).2.2
    have e2 := (zp_nm_self hc kc).2.2
    rw [h4, e2] at e1
    have := (zp_xp_eq hV hc h2 kc h3).mp e1
    rcases h5 with h5 | h5
    · exact Or.inl (by rw [h1, this.1, h5])
    · exact Or.inr (by rw [h1, this.2.2, h5])
/-- lacking by blocks and by points -/
theorem zp_LK_cy {P : zp_T} (hV : zp_V P) {c : Nat} (hc : c < zp_ni P) (kc : zp_k P c = 2) {L : Nat → Bool} (h0 : L 0 = true) (hs : ∀ x, x < zp_nb P → L x = true → zp_LK P (zp_nm P c) (zp_fp P x)) (hcl : ∀ x, x < zp_nb P → zp_RB P x → zp_cy P c (zp_st P x) (!L x) (zp_st P (x + 1) - zp_st P x) = false → ∀ y, zp_ed P x y = true → L y = true) {b k : Nat} (hb : b < zp_nb P) (hr : zp_RB P b) (h1 : zp_st P b ≤ k) (h2 : k ≤ zp_st P (b + 1)) : zp_LK P (zp_nm P c) (zp_pl P b k) ↔ zp_cy P c (zp_st P b) (!L b) (k - zp_st P b) = false := by
  have hni := hV.2.2.1
  constructor
  · intro h
    have key : ∀ p, zp_LK P (zp_nm P c) p → zp_cy P c (zp_st P (zp_bp P p)) (!L (zp_bp P p)) (zp_pc P p - zp_st P (zp_bp P p)) = false := by
      have fpS : ∀ y, y < zp_nb P → L y = true → zp_cy P c (zp_st P (zp_bp P (zp_fp P y))) (!L (zp_bp P (zp_fp P y))) (zp_pc P (zp_fp P y) - zp_st P (zp_bp P (zp_fp P y))) = false := by
        intro y hy hl
        obtain ⟨a1, a2, a3⟩ := zp_pl_all hV hy (Nat.le_refl _) (hV.2.2.2.2.1 y hy)
        rw [← zp_fp_pl] at a2 a3
        rw [a2, a3, Nat.sub_self, hl]
        rfl
      have stepS : ∀ p q, zp_OP P p → zp_sc P p q → p < 40 → (zp_KL P p (zp_nm P c) ∨ (zp_cy P c (zp_st P (zp_bp P p)) (!L (zp_bp P p)) (zp_pc P p - zp_st P (zp_bp P p)) = false ∧ ¬ zp_GN P p (zp_nm P c))) → zp_cy P c (zp_st P (zp_bp P q)) (!L (zp_bp P q)) (zp_pc P q - zp_st P (zp_bp P q)) = false := by
        intro p q ho hs c40 hor
        obtain ⟨b1, b2, b3, b4⟩ := zp_pt_all hV ho.1
        have hi : p < zp_ni P := by rcases ho.1 with q | q <;> omega
        have hpc : zp_pc P p = p := by unfold zp_pc; rw [if_pos c40]
        have hph : p < zp_st P (zp_bp P p + 1) := by
          have := zp_bk_hi hV hi
          unfold zp_bp
          rw [if_pos c40]
          exact this
        have e := zp_sc_lo hV hs c40
        obtain ⟨a1, a2, a3⟩ := zp_pl_all hV b1 (k := p + 1) (by omega) (by omega)
        rw [← e] at a2 a3
        rw [a2, a3, show p + 1 - zp_st P (zp_bp P p) = (p - zp_st P (zp_bp P p)) + 1 by omega]
        show ((zp_cy P c (zp_st P (zp_bp P p)) (!L (zp_bp P p)) (p - zp_st P (zp_bp P p)) || zp_sm P c (zp_st P (zp_bp P p) + (p - zp_st P (zp_bp P p)))) && !zp_kl P c (zp_st P (zp_bp P p) + (p - zp_st P (zp_bp P p)))) = false
        rw [show zp_st P (zp_bp P p) + (p - zp_st P (zp_bp P p)) = p by omega]
        rcases hor with z | ⟨z1, z2⟩
        · rw [(zp_kl_KL hV hc kc).mpr z]; simp
        · rw [hpc] at z1
          rw [z1]
          have : zp_sm P c p = false := by
            cases e2 : zp_sm P c p with
            | false => rfl
            | true => exact absurd ((zp_sm_GN hV hc kc hi).mp e2) z2
          rw [this]; rfl
      intro p hp
      refine zs_ind (S := fun p => zp_cy P c (zp_st P (zp_bp P p)) (!L (zp_bp P p)) (zp_pc P p - zp_st P (zp_bp P p)) = false) (fun q hq => ?_) (fun p q hp ih e => ?_) hp
      · rcases hq with rfl | ⟨p, z1, z2, z3⟩
        · exact fpS 0 hV.1 h0
        · have c40 : p < 40 := by
            rcases Nat.lt_or_ge p 40 with z | z
            · exact z
            · obtain ⟨v, z4, _⟩ := z3
              rw [zp_df_hi (by omega)] at z4
              cases z4
          exact stepS p q z1 z2 c40 (Or.inl z3)
      · have ho := zp_LK_OP hV hp
        by_cases c40 : p < 40
        · exact stepS p q ho e.1 c40 (Or.inr ⟨ih, e.2⟩)
        · obtain ⟨y, e1, e2⟩ := zp_sc_hi hV e.1 c40
          rw [e2]
          have hpc : zp_pc P p = zp_st P (zp_bp P p + 1) := by unfold zp_pc zp_bp; rw [if_neg c40, if_neg c40]
          rw [hpc] at ih
          exact fpS y (zp_ed_lt hV e1).2 (hcl _ (zp_ed_lt hV e1).1 ho.2 ih y e1)
    obtain ⟨a1, a2, a3⟩ := zp_pl_all hV hb h1 h2
    have := key _ h
    rw [a2, a3] at this
    exact this
  · have back : ∀ n, zp_st P b + n ≤ zp_st P (b + 1) → zp_cy P c (zp_st P b) (!L b) n = false → zp_LK P (zp_nm P c) (zp_pl P b (zp_st P b + n)) := by
      intro n
      induction n with
      | zero =>
        intro _ h
        have h : (!L b) = false := h
        rw [Nat.add_zero, ← zp_fp_pl]
        exact hs b hb (by simpa using h)
      | succ n ih =>
        intro h3 h
        have h : ((zp_cy P c (zp_st P b) (!L b) n || zp_sm P c (zp_st P b + n)) && !zp_kl P c (zp_st P b + n)) = false := h
        have epl : zp_pl P b (zp_st P b + n) = zp_st P b + n := by unfold zp_pl; rw [if_pos (by omega)]
        have hsc := zp_sc_in hV hb (k := zp_st P b + n) (by omega) (by omega)
        have hse := zp_st_le hV (b := b + 1) (by omega)
        obtain ⟨a1, a2, a3⟩ := zp_pl_all hV hb (k := zp_st P b + n) (by omega) (by omega)
        rw [epl] at a1 a2
        by_cases ck : zp_kl P c (zp_st P b + n) = true
        · exact zs_in (Or.inr ⟨_, ⟨a1, by rw [a2]; exact hr⟩, hsc, (zp_kl_KL hV hc kc).mp ck⟩)
        · have hk : zp_kl P c (zp_st P b + n) = false := by simpa using ck
          rw [hk, Bool.not_false, Bool.and_true, Bool.or_eq_false_iff] at h
          have := ih (by omega) h.1
          rw [epl] at this
          refine zs_go this ⟨hsc, fun q => ?_⟩
          rw [(zp_sm_GN hV hc kc (by omega)).mpr q] at h
          cases h.2
    intro h
    have := back (k - zp_st P b) (by omega) h
    rw [show zp_st P b + (k - zp_st P b) = k by omega] at this
    exact this
section ZR4
variable {M : mm_T} {o : Nat} {P : zp_T}
theorem zt_isSame (h : zt_S M o P) {c k : Nat} (hc : c < zp_ni P) (hk : k < zp_ni P) : ff_M_isSame 52 (nI c) (nI k) M = some (zb_B (zp_sm P c k)) := by
  have e52 : (mm_k M 52).1 = 11 := by rw [h.1.1]
  have qc := h.2.2.2.2.2.2.2.2.2.2.2 c hc
  have qk := h.2.2.2.2.2.2.2.2.2.2.2 k hk
  have b1 : zp_k P k ≤ 3 := qk.1
  have b2 : zp_l P c < 1000 := qc.2.2.1
  have b3 : zp_l P k < 1000 := qk.2.2.1
  have b4 : zp_o P c ≤ 2 := qc.2.2.2.2.1
  have b5 : zp_o P k ≤ 2 := qk.2.2.2.2.1
  have b6 : zp_r P c < 8 := qc.2.2.2.2.2
  have b7 : zp_r P k < 8 := qk.2.2.2.2.2
  unfold ff_M_isSame zp_sm
  rw [zq_gd e52, zt_k h hk, Option.bind_some, zt_l h hc, zt_l h hk, zt_o h hc, zt_o h hk, zt_r h hc, zt_r h hk]
  simp only [Option.bind_some]
  by_cases c1 : zp_k P k = 2
  · rw [if_pos (show nI (zp_k P k) = (2 : Int32) by rw [c1]; rfl)]
    by_cases c2 : zp_l P c = zp_l P k
    · rw [if_pos (by rw [c2])]
      by_cases c3 : zp_o P c = zp_o P k
      · rw [if_pos (by rw [c3])]
        by_cases c4 : zp_r P c = zp_r P k
        · rw [if_pos (by rw [c4])]; simp [c1, c2, c3, c4, zb_B]
        · rw [if_neg (fun q => c4 ((nI_eq (by omega) (by omega)).mp q))]; simp [c4, zb_B]
      · rw [if_neg (fun q => c3 ((nI_eq (by omega) (by omega)).mp q))]; simp [c3, zb_B]
    · rw [if_neg (fun q => c2 ((nI_eq (by omega) (by omega)).mp q))]; simp [c2, zb_B]
  · rw [if_neg (show ¬ nI (zp_k P k) = (2 : Int32) from fun q => c1 ((nI_eq (b := 2) (by omega) (by omega)).mp q))]; simp [c1, zb_B]
theorem zt_carries (h : zt_S M o P) {c b k : Nat} (hc : c < zp_ni P) (hb : b < zp_nb P) (h1 : zp_st P b ≤ k) (h2 : k ≤ zp_st P (b + 1)) (s : Bool) : ff_M_carries 52 (nI c) (nI b) (nI k) (zb_B s) M = some (zb_B (zp_cy P c (zp_st P b) s (k - zp_st P b))) := by
  have hV := h.2.2.2.2
  have hni := hV.2.2.1
  have e52 : (mm_k M 52).1 = 11 := by rw [h.1.1]
  have hse := zp_st_le hV (b := b + 1) (by omega)
  have qc := hV.2.2.2.2.2.2.2 c hc
  have b2 : zp_l P c < 1000 := qc.2.2.1
  have b6 : zp_r P c < 8 := qc.2.2.2.2.2
  unfold ff_M_carries
  rw [zq_gd e52, zt_firstOf h (by omega), Option.bind_some]
  refine zh_is (zh_up (F := fun fu i (x : Int32) => lf_M_carries_11 52 (nI c) (nI k) M fu x i) k (fun i x => zp_st P b ≤ i ∧ x = zb_B (zp_cy P c (zp_st P b) s (i - zp_st P b))) ?_ ?_ fu_L (zp_st P b) (zb_B s) h1 (by rw [zs_fuel]; omega) ⟨Nat.le_refl _, by rw [Nat.sub_self]; rfl⟩)
  · intro fu i x hi ⟨g1, g2⟩ kk
    show zh_H (lb_M_carries_11 52 (nI c) (nI k) M (lf_M_carries_11 52 (nI c) (nI k) M fu) x (nI i)) _
    unfold lb_M_carries_11
    rw [if_neg (nI_ge hi (by omega)), zt_isSame h hc (by omega), Option.bind_some]
    simp only [zq_jp, zt_l h hc, zt_r h hc, Option.bind_some, zt_defines h (show i < zp_ni P by omega) (show zp_l P c < 2 ^ 31 by omega), zt_defines h (show i < zp_ni P by omega) (show zp_r P c < 2 ^ 31 by omega), nI_1]
    have fin : ∀ y : Bool, y = zp_cy P c (zp_st P b) s (i + 1 - zp_st P b) → zh_H (lf_M_carries_11 52 (nI c) (nI k) M fu (zb_B y) (nI (i + 1))) (fun y => y = zb_B (zp_cy P c (zp_st P b) s (k - zp_st P b))) := fun y hy => kk _ ⟨by omega, by rw [hy]⟩
    rw [show i + 1 - zp_st P b = (i - zp_st P b) + 1 by omega] at fin
    have ecy : zp_cy P c (zp_st P b) s (i - zp_st P b + 1) = ((zp_cy P c (zp_st P b) s (i - zp_st P b) || zp_sm P c i) && !zp_kl P c i) := by
      show ((zp_cy P c (zp_st P b) s (i - zp_st P b) || zp_sm P c (zp_st P b + (i - zp_st P b))) && !zp_kl P c (zp_st P b + (i - zp_st P b))) = _
      rw [show zp_st P b + (i - zp_st P b) = i by omega]
    rw [ecy] at fin
    unfold zp_kl at fin
    rw [g2]
    have f0 := fin false
    have f1 := fin true
    have fx := fin (zp_cy P c (zp_st P b) s (i - zp_st P b))
    cases e1 : zp_sm P c i <;> cases e2 : decide (zp_df P i = some (zp_l P c)) <;> cases e3 : decide (zp_df P i = some (zp_r P c)) <;> simp [e1, e2, e3, zb_B] at f0 f1 fx ⊢ <;> assumption
  · intro fu x ⟨g1, g2⟩
    show zh_H (lb_M_carries_11 52 (nI c) (nI k) M (lf_M_carries_11 52 (nI c) (nI k) M fu) x (nI k)) _
    unfold lb_M_carries_11
    rw [if_pos (nI_le (Nat.le_refl _) (by omega)), g2, zb_Zok, Option.bind_some]
    exact zh_some rfl
end ZR4
