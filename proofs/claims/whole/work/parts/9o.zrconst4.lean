/-! ===== the reference: constants found; the constant at a place ===== -/
noncomputable def zp_CT (P : zp_T) (p v : Nat) : Int32 := Classical.epsilon (fun F => zc_top P F) p v
theorem zp_CT_eq {P : zp_T} {F : Nat → Nat → Int32} (h : zc_top P F) {p v : Nat} (hp : p < 52) (hv : v < 8) : zp_CT P p v = F p v := zc_top_one (Classical.epsilon_spec (p := fun F => zc_top P F) ⟨F, h⟩) h hp hv
/-- the constant, -1 when there is none -/
noncomputable def zp_cst (P : zp_T) (p v : Nat) : Int32 := if zp_CT P p v = -2 then -1 else zp_CT P p v
theorem zi_max1 {x : Int32} (h : zc_W x) (M : mm_T) : ff_JM_max (-1) x M = some (if x = -2 then -1 else x) := by
  unfold ff_JM_max
  rcases h with rfl | rfl | ⟨c, hc, rfl⟩
  · rfl
  · rfl
  · have : ∀ c, c < 1000 → (-1 : Int32) < nI c := by decide +kernel
    rw [if_pos (this c hc), if_neg (zb_n2 hc)]
section ZTO
variable {M : mm_T} {o : Nat} {P : zp_T}
theorem zt_findsConst (h : zt_S M o P) : ∃ N, ff_M_findsConstants 52 M = some N ∧ zb_I M P N ∧ ∀ b, b < zp_nb P → zb_S P b N := by
  have hV := h.2.2.2.2
  have hnb := hV.2.1
  suffices goal : zh_H (ff_M_findsConstants 52 M) (fun N => zb_I M P N ∧ ∀ b, b < zp_nb P → zb_S P b N) from goal
  unfold ff_M_findsConstants
  rw [zq_gd (zt_e52 h)]
  refine zh_up (F := fun fu i N => lf_M_findsConstants_2 _ 52 fu i N) 96 (fun i N => zf_F M N zt_A ∧ ∀ x, x < i → mm_I N 57 x = if 8 ≤ x then -2 else 0) ?_ ?_ fu_L 0 M (Nat.zero_le _) (by rw [zs_fuel]; omega) ⟨zf_rfl _ _, fun x hx => absurd hx (Nat.not_lt_zero _)⟩
  · intro fu i N hi ⟨g1, g2⟩ k
    have hS : zt_S N o P := h.keepA g1 (fun a h => h)
    have k57 : mm_k N 57 = (20, 96) := by
      have := hS.1
      unfold zt_R at this
      simp only [this]
    show zh_H (lb_M_findsConstants_2 _ 52 (lf_M_findsConstants_2 _ 52 fu) (nI i) N) _
    unfold lb_M_findsConstants_2
    have w1 : ∀ v, aw_I N 57 (nI i) v = some (mm_sI N 57 i v) := fun v => zw_I k57 hi (by omega) v
    simp only [zg_R (zt_e52 hS), Option.bind_some, hS.1.2.1.2.2.2.2.1, za_N k57 (by omega), zq_jp, w1, nI_1]
    rw [if_neg (nI_ge hi (by omega))]
    have fin : ∀ v : Int32, v = (if 8 ≤ i then -2 else 0) → zh_H (lf_M_findsConstants_2 (fun (M2 : mm_T) => lf_M_findsConstants_37 52 fu_L (1 : Int32) M2) 52 fu (nI (i + 1)) (mm_sI N 57 i v)) (fun N => zb_I M P N ∧ ∀ b, b < zp_nb P → zb_S P b N) := by
      intro v hv
      refine k _ ⟨zf_tr g1 (zf_I (by unfold zt_A; omega) _ _), fun x hx => ?_⟩
      rw [zm_II]
      by_cases c : x = i
      · rw [if_pos ⟨rfl, c⟩, hv, c]
      · rw [if_neg (fun z => c z.2)]
        exact g2 x (by omega)
    by_cases c : 8 ≤ i
    · rw [if_pos (show (8 : Int32) ≤ nI i from nI_le (a := 8) c (by omega))]
      exact fin _ (by rw [if_pos c])
    · rw [if_neg (show ¬ (8 : Int32) ≤ nI i from nI_ge (b := 8) (by omega) (by omega))]
      exact fin _ (by rw [if_neg c])
  · intro fu N ⟨g1, g2⟩
    have hS : zt_S N o P := h.keepA g1 (fun a h => h)
    have k57 : mm_k N 57 = (20, 96) := by
      have := hS.1
      unfold zt_R at this
      simp only [this]
    show zh_H (lb_M_findsConstants_2 _ 52 (lf_M_findsConstants_2 _ 52 fu) (nI 96) N) _
    unfold lb_M_findsConstants_2
    simp only [zg_R (zt_e52 hS), Option.bind_some, hS.1.2.1.2.2.2.2.1, za_N k57 (by omega)]
    rw [if_pos (nI_le (Nat.le_refl _) (by omega))]
    have hK : ∀ b, b < 12 → ∀ v, v < 8 → zb_K N b v = if b = 0 then 0 else -2 := by
      intro b hb v hv
      show mm_I N 57 (8 * b + v) = _
      rw [g2 _ (by omega)]
      by_cases c : b = 0
      · rw [if_pos c, if_neg (by omega)]
      · rw [if_neg c, if_pos (by omega)]
    have hI0 : zb_I M P N := by
      refine ⟨g1, fun b hb v hv => ?_, fun v hv => ?_, fun G hG b hb v hv => ?_⟩
      · rw [hK b hb v hv]
        split
        · exact Or.inr (Or.inr ⟨0, by omega, rfl⟩)
        · exact Or.inl rfl
      · rw [hK 0 (by omega) v hv, if_pos rfl]
        exact zc_ge_rfl 0
      · rw [hK b (by have := zp_RB_lt hV hb; omega) v hv]
        split
        · rename_i c
          rw [c]
          exact hG.1 v hv
        · exact Or.inl rfl
    refine zs_fix2 (Fin := fun r cont fu q i N => lf_M_findsConstants_45 cont 52 fu q (nI i) N) (Fout := fun fu q r N => lf_M_findsConstants_37 52 fu q N) (k0 := fun N => some N) (Q := fun N => zb_I M P N ∧ ∀ b, b < zp_nb P → zb_S P b N) (zp_nb P) 192 (zb_I M P) (zb_S P) zb_mu (fun i N d N' => zb_I M P N' ∧ (d = true → zb_mu N' < zb_mu N) ∧ (d = false → (∀ x, mm_I N' 57 x = mm_I N 57 x) ∧ zb_S P i N')) ?_ ?_ ?_ ?_ ?_ (by rw [zs_fuel]; omega) (by omega) ?_ fu_L 0 _ hI0 (by rw [Nat.zero_add]; exact zb_mu_le _) (by rw [zs_fuel]; omega)
    · intro r cont fu q i N hq hi hI k
      have hS : zt_S N o P := h.keepA hI.1 (fun a h => h)
      show zh_H (lb_M_findsConstants_45 cont 52 (lf_M_findsConstants_45 cont 52 fu) q (nI i) N) _
      unfold lb_M_findsConstants_45
      rw [zt_nb hS, Option.bind_some, if_neg (nI_ge hi (by omega))]
      simp only [zq_jp, Option.bind_some, nI_1]
      obtain ⟨d, N1, e1, f1, hd⟩ : ∃ (d : Bool) (N1 : mm_T), ff_M_isReached 52 (nI i) (-1) N = some (zb_B d, N1) ∧ zf_F N N1 (fun x => x = 55) ∧ (d = true ↔ zp_RB P i) := by
        obtain ⟨M1, M2, e1, e2, f2, b2, g2⟩ := zt_walk0 hS (vo := none) (bo := none) (fun v hv => by cases hv) (fun v hv => by cases hv)
        have hR2 := hS.1.keep f2
        have e52'' : (mm_k M2 52).1 = 11 := by rw [hR2.1]
        obtain ⟨d, ed, hd⟩ := zt_seen hR2 b2 (show i < 12 by omega)
        refine ⟨d, M2, ?_, f2, hd.trans ((g2 i (by omega)).trans zw_RB)⟩
        unfold ff_M_isReached
        rw [zq_gd (zt_e52 hS), e1, Option.bind_some, show (-1 : Int32) = zo_N none from rfl, show zo_N none = zo_N (none : Option Nat) from rfl, e2, Option.bind_some, zg_R e52'', Option.bind_some, hR2.2.1.2.2.1, ed, Option.bind_some, zb_Zok, Option.bind_some]
      have i57 : ∀ x, mm_I N1 57 x = mm_I N 57 x := fun x => zf_i f1 (by omega) x
      have eK : zb_K N1 = zb_K N := by
        funext c w
        unfold zb_K
        rw [i57]
      have hI1 : zb_I M P N1 := by
        unfold zb_I
        rw [eK]
        exact ⟨zf_tr hI.1 (zt_A55 f1), hI.2⟩
      have emu : zb_mu N1 = zb_mu N := by
        unfold zb_mu
        simp only [i57]
      refine zh_at2 e1 ?_
      cases d with
      | false =>
        rw [if_pos (by decide)]
        refine k false N1 ⟨hI1, (by intro z; cases z), fun _ => ⟨i57, fun z => ?_⟩⟩
        have := hd.mpr z
        cases this
      | true =>
        rw [if_neg (by decide)]
        have hS1 : zt_S N1 o P := h.keepA hI1.1 (fun a h => h)
        obtain ⟨c, N2, e2, hI2, c1, c2⟩ := zt_spreads hS1 hI1 (hd.mp rfl)
        refine zh_at2 e2 ?_
        cases c with
        | true =>
          have eq : q ||| zb_B true = 1 := by rcases hq with z | z <;> rw [z] <;> rfl
          rw [eq]
          exact k true N2 ⟨hI2, fun _ => by rw [← emu]; exact c1 rfl, (by intro z; cases z)⟩
        | false =>
          have eq : q ||| zb_B false = q := by rcases hq with z | z <;> rw [z] <;> rfl
          rw [eq]
          obtain ⟨z1, z2⟩ := c2 rfl
          exact k false N2 ⟨hI2, (by intro z; cases z), fun _ => ⟨fun x => (z1 x).trans (i57 x), z2⟩⟩
    · intro r cont fu q N hI
      have hS : zt_S N o P := h.keepA hI.1 (fun a h => h)
      show lb_M_findsConstants_45 cont 52 (lf_M_findsConstants_45 cont 52 fu) q (nI (zp_nb P)) N = _
      unfold lb_M_findsConstants_45
      rw [zt_nb hS, Option.bind_some, if_pos (nI_le (Nat.le_refl _) (by omega))]
    · intro i N d N' hi hI ⟨a1, a2, a3⟩
      refine ⟨a1, a2, fun hdf => ?_⟩
      obtain ⟨b1, b2⟩ := a3 hdf
      have eK : zb_K N' = zb_K N := by
        funext c w
        unfold zb_K
        rw [b1]
      refine ⟨by unfold zb_mu; simp only [b1]; exact Nat.le_refl _, b2, fun j hj q => ?_⟩
      unfold zb_S at q ⊢
      rw [eK]
      exact q
    · intro fu r N
      show lb_M_findsConstants_37 52 _ 0 N = _
      unfold lb_M_findsConstants_37
      rw [if_pos rfl]
    · intro fu r N _
      show lb_M_findsConstants_37 52 _ 1 N = _
      unfold lb_M_findsConstants_37
      rw [if_neg (by decide)]
      rfl
    · intro N hI hS
      exact zh_some ⟨hI, hS⟩
theorem zt_constAt (h : zt_S M o P) {b k v : Nat} (hb : b < zp_nb P) (h1 : zp_st P b ≤ k) (h2 : k ≤ zp_st P (b + 1)) (hv : v < 8) : ∃ N, ff_M_constantAtPlace 52 (nI b) (nI k) (nI v) M = some (zp_cst P (zp_pl P b k) v, N) ∧ zf_F M N zt_A := by
  have hV := h.2.2.2.2
  have hnb := hV.2.1
  obtain ⟨a1, a2, a3⟩ := zp_pl_all hV hb h1 h2
  have p52 := zp_pt_lt hV a1
  -- the solution that the reference finds, seen from any memory
  obtain ⟨Z, _, hZ, sZ⟩ := zt_findsConst h
  have topOf : ∀ N, zb_I M P N → (∀ b, b < zp_nb P → zb_S P b N) → zc_top P (zb_F P (zb_K N)) := fun N hI hS => zb_top hV (fun b hb v hv => hI.2.1 b (by omega) v hv) hI.2.2.1 (fun b hr y hy v hv => hS b (zp_RB_lt hV hr) hr y hy v hv) hI.2.2.2
  suffices goal : zh_H (ff_M_constantAtPlace 52 (nI b) (nI k) (nI v) M) (fun y => ∃ N, y = (zp_cst P (zp_pl P b k) v, N) ∧ zf_F M N zt_A) by
    obtain ⟨y, e, N, rfl, f⟩ := goal
    exact ⟨N, e, f⟩
  unfold ff_M_constantAtPlace
  rw [zq_gd (zt_e52 h)]
  refine zt_Qbd (zt_isReached h (show b < 12 by omega)) (fun N f q => ?_) (fun N f q => ?_)
  · rw [if_neg (by decide)]
    have hS : zt_S N o P := h.keepA f (fun a h => h)
    obtain ⟨N1, e1, hI1, s1⟩ := zt_findsConst hS
    have fN1 : zf_F M N1 zt_A := zf_tr f hI1.1
    have hI1' : zb_I M P N1 := ⟨fN1, hI1.2⟩
    have hS1 : zt_S N1 o P := h.keepA fN1 (fun a h => h)
    rw [e1, Option.bind_some]
    obtain ⟨N2, e2, f2, g2⟩ := zt_comesTo hS1 hb h1 h2 (hI1.2.1 b (by omega))
    have fN2 : zf_F M N2 zt_A := zf_tr fN1 (zf_mono f2 (fun a q => by unfold zt_A; omega))
    have hS2 : zt_S N2 o P := h.keepA fN2 (fun a h => h)
    rw [e2, Option.bind_some, zg_R (zt_e52 hS2), Option.bind_some, hS2.1.2.1.2.2.2.2.2.1, zt_nowAt hS2 hv, Option.bind_some, g2 v hv]
    have hW : zc_W (zb_st P (zb_K N1) b (k - zp_st P b) v) := zb_st_W hV hb (hI1.2.1 b (by omega)) _ (by omega) v hv
    rw [zi_max1 hW, Option.bind_some]
    refine zh_some ⟨N2, ?_, fN2⟩
    have e3 := zp_CT_eq (topOf N1 hI1' s1) p52 hv
    rw [zb_F_pl hV q h1 h2] at e3
    unfold zp_cst
    rw [e3]
  · rw [if_pos rfl]
    refine zh_some ⟨N, ?_, f⟩
    have e3 := zp_CT_eq (topOf Z hZ sZ) p52 hv
    have e4 := (topOf Z hZ sZ).2.2.1 _ p52 (fun z => q (by have := z.2; rw [a2] at this; exact this)) v hv
    unfold zp_cst
    rw [e3, e4, if_pos rfl]
end ZTO
