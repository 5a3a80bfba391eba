/-! ===== the reference: is a block in a loop ===== -/
def zt_QX (X : Option (Int32 × mm_T)) (M : mm_T) (Φ : Prop) (k u : Nat) : Prop := ∃ (b : Bool) (M' : mm_T), X = some (zb_B b, M') ∧ zf_X M M' zt_A k u ∧ (b = true ↔ Φ)
theorem zt_QXh {X : Option (Int32 × mm_T)} {M : mm_T} {Φ : Prop} {k u : Nat} (h : zh_H X (fun y => ∃ (b : Bool) (M' : mm_T), y = (zb_B b, M') ∧ zf_X M M' zt_A k u ∧ (b = true ↔ Φ))) : zt_QX X M Φ k u := by
  obtain ⟨y, e, b, M', rfl, f, g⟩ := h
  exact ⟨b, M', e, f, g⟩
theorem zt_QXt {M N : mm_T} {Φ : Prop} {k u : Nat} (f : zf_X M N zt_A k u) (h : Φ) : zh_H (some ((1 : Int32), N)) (fun y => ∃ (b : Bool) (M' : mm_T), y = (zb_B b, M') ∧ zf_X M M' zt_A k u ∧ (b = true ↔ Φ)) := zh_some ⟨true, N, rfl, f, by simp [h]⟩
theorem zt_QXf {M N : mm_T} {Φ : Prop} {k u : Nat} (f : zf_X M N zt_A k u) (h : ¬ Φ) : zh_H (some ((0 : Int32), N)) (fun y => ∃ (b : Bool) (M' : mm_T), y = (zb_B b, M') ∧ zf_X M M' zt_A k u ∧ (b = true ↔ Φ)) := zh_some ⟨false, N, rfl, f, by simp [h]⟩
theorem zu_F0 {M M' : mm_T} (h : zf_F M M' zt_A) {k u : Nat} : zf_X M M' zt_A k u := zu_wk (zu_F h) (Nat.zero_le _) (Nat.zero_le _) (fun a h => h)
theorem zt_n62 {M : mm_T} (h : zt_R M) : 62 ≤ mm_n M := by
  have e : mm_k M 62 = (20, 1000) := by
    unfold zt_R at h
    simp only [h]
  exact (zu_in e (by decide)).2
theorem zt_S.keepX {M M' : mm_T} {o k u : Nat} {P : zp_T} (h : zt_S M o P) (hf : zf_X M M' zt_A k u) : zt_S M' o P := by
  have n62 := zt_n62 h.1
  have k63 : ∀ a, a ≤ 62 → mm_k M' a = mm_k M a := fun a ha => zu_k hf (by omega)
  have r63 : ∀ a, a ≤ 62 → ∀ j, mm_R M' a j = mm_R M a j := fun a ha j => zu_R hf (by omega) j
  refine ⟨?_, (zu_i hf (by omega) (fun q => by unfold zt_A at q; omega) 2).trans h.2.1, h.2.2.1, h.2.2.2.1.keep (fun k => zu_i hf (by omega) (fun q => by unfold zt_A at q; omega) k), h.2.2.2.2⟩
  have := h.1
  unfold zt_R at this ⊢
  simp only [k63, r63, Nat.reduceLeDiff]
  exact this
section ZR8
variable {M : mm_T} {o : Nat} {P : zp_T}
theorem zt_isInLoop (h : zt_S M o P) (hB : mm_n M + 1 < st_B) {b y : Nat} (hb : b < zp_nb P) (hy : y < 12) : zt_QX (ff_M_isInLoop 52 (nI b) (nI y) M) M (zp_BD P y b) 1 12 := by
  have hV := h.2.2.2.2
  have hnb := hV.2.1
  have e52 : (mm_k M 52).1 = 11 := by rw [h.1.1]
  have hb12 : b < 12 := by omega
  refine zt_QXh ?_
  unfold ff_M_isInLoop
  rw [zq_gd e52]
  refine zt_Qbd (zt_isHead h hy) ?_ (fun N f q => by rw [if_pos rfl]; exact zt_QXf (zu_F0 f) (fun z => q z.1))
  intro N f q
  rw [if_neg (by decide)]
  have h1 : zt_S N o P := h.keepA f (fun a h => h)
  refine zt_Qbd (zt_isReached h1 hb12) ?_ (fun N1 f1 q1 => by rw [if_pos rfl]; exact zt_QXf (zu_F0 (zf_tr f f1)) (fun z => q1 z.2.1))
  intro N1 f1 q1
  rw [if_neg (by decide)]
  have f01 := zf_tr f f1
  by_cases c : b = y
  · rw [if_pos (show nI b = nI y by rw [c])]
    exact zt_QXt (zu_F0 f01) ⟨q, q1, Or.inl c⟩
  rw [if_neg (show ¬ nI b = nI y from fun z => c ((nI_eq (by omega) (by omega)).mp z))]
  refine zh_at2 (show na_K 22 N1 (12 : Int32) = _ from zu_na (n := 12) (by omega) (by rw [f01.1]; exact hB)) ?_
  have h2 : zt_S N1 o P := h.keepA f01 (fun a h => h)
  have n62 := zt_n62 h2.1
  have fa : zf_X N1 (mm_al N1 (22, 12) 12) zt_A 1 12 := zu_al N1 (22, 12) 12 zt_A
  have h3 : zt_S (mm_al N1 (22, 12) 12) o P := h2.keepX fa
  obtain ⟨M4, e4, f4, g4⟩ := zw_forget h3.1
  have h4 : zt_S M4 o P := h3.keepA f4 (fun a h => by unfold zt_A; omega)
  obtain ⟨M5, e5, f5, b5, g5⟩ := zw_root (vo := none) (bo := some y) (fun v hv => by cases hv) (fun v hv => by cases hv; omega) h4 hb g4
  have f45 : zf_F (mm_al N1 (22, 12) 12) M5 (fun x => x = 55) := zf_tr f4 f5
  have h5 : zt_S M5 o P := h3.keepA f45 (fun a h => by unfold zt_A; omega)
  have k5 : mm_k M5 (mm_n N1 + 1) = (22, 12) := by rw [zf_k f45]; exact zu_alk _ _ _
  rw [e4, Option.bind_some, show (-1 : Int32) = zo_N none from rfl, show nI y = zo_N (some y) from rfl, e5, Option.bind_some]
  have e52' : (mm_k M5 52).1 = 11 := by rw [h5.1.1]
  have fT : zf_X M M5 zt_A 1 12 := zu_wk (zu_tr (zu_F f01) (zu_tr fa (zu_F (zt_A55 f45)))) (by omega) (by omega) (fun a h => h)
  refine zh_up (F := fun fu i N => lf_M_isInLoop_45 _ 52 (zo_N (some y)) (mm_n N1 + 1) fu i N) 12 (fun i N => zf_F M5 N (fun x => x = mm_n N1 + 1) ∧ ∀ x, x < i → mm_I N (mm_n N1 + 1) x = mm_I M5 55 x) ?_ ?_ fu_L 0 M5 (Nat.zero_le _) (by rw [zs_fuel]; omega) ⟨zf_rfl _ _, fun x hx => absurd hx (Nat.not_lt_zero _)⟩
  · intro fu i N hi ⟨g1, g2⟩ k
    have hR : zt_R N := h5.1.keep g1
    have e52'' : (mm_k N 52).1 = 11 := by rw [hR.1]
    have bb : mm_I N 55 i = zb_B (decide (mm_I M5 55 i = 1)) := by
      rw [zf_i g1 (by omega)]
      rcases b5 i hi with z | z <;> rw [z] <;> rfl
    show zh_H (lb_M_isInLoop_45 _ 52 (zo_N (some y)) (mm_n N1 + 1) (lf_M_isInLoop_45 _ 52 (zo_N (some y)) (mm_n N1 + 1) fu) (nI i) N) _
    unfold lb_M_isInLoop_45
    rw [if_neg (show ¬ (12 : Int32) ≤ nI i from nI_ge (b := 12) hi (by omega)), zg_R e52'', Option.bind_some, hR.2.1.2.2.1, za_Z hR.2.2.2.2.1 hi (by omega), Option.bind_some, bb, zw_Z (by rw [zf_k g1]; exact k5) hi (by omega), Option.bind_some, Option.bind_some, nI_1]
    refine k _ ⟨zf_tr g1 (zf_I (A := fun x => x = mm_n N1 + 1) rfl _ _), fun x hx => ?_⟩
    rw [zm_II]
    by_cases cx : x = i
    · rw [if_pos ⟨rfl, cx⟩, cx, ← bb, zf_i g1 (by omega)]
    · rw [if_neg (fun z => cx z.2)]; exact g2 x (by omega)
  · intro fu N ⟨g1, g2⟩
    show zh_H (lb_M_isInLoop_45 _ 52 (zo_N (some y)) (mm_n N1 + 1) (lf_M_isInLoop_45 _ 52 (zo_N (some y)) (mm_n N1 + 1) fu) (nI 12) N) _
    unfold lb_M_isInLoop_45
    rw [if_pos (show (12 : Int32) ≤ nI 12 from nI_le (a := 12) (Nat.le_refl _) (by omega))]
    have gX : zf_X M N zt_A 1 12 := by
      obtain ⟨a1, a2, a3, a4, a5, a6⟩ := fT
      refine ⟨by rw [g1.1]; exact a1, by rw [g1.1]; exact a2, by rw [g1.2.1]; exact a3, by rw [g1.2.2.1]; exact a4, fun a ha => ⟨by rw [g1.2.2.2.1]; exact (a5 a ha).1, fun j => (zf_R g1 a j).trans ((a5 a ha).2 j)⟩, fun a ha hA j => ⟨(zf_i g1 ?_ j).trans (a6 a ha hA j).1, (zf_j g1 ?_ j).trans (a6 a ha hA j).2⟩⟩ <;>
      · have := f01.1
        omega
    have hSN : zt_S N o P := h.keepX gX
    have kN : mm_k N (mm_n N1 + 1) = (22, 12) := by rw [zf_k g1]; exact k5
    have row : ∀ {N' : mm_T}, zf_F N N' zt_A → ∀ x, x < zp_nb P → ∃ d : Bool, ar_Z N' (mm_n N1 + 1) (nI x) = some (zb_B d) ∧ (d = true ↔ zs_P (fun x z => zp_ed P x z = true ∧ z ≠ y) b x) := by
      intro N' f' x hx
      have hx12 : x < 12 := by omega
      rw [za_Z (by rw [zf_k f']; exact kN) hx12 (by omega), zf_i f' (by unfold zt_A; omega), g2 x hx12]
      have key : mm_I M5 55 x = 1 ↔ zs_P (fun x z => zp_ed P x z = true ∧ z ≠ y) b x := by
        refine (g5 x hx12).trans ⟨fun z => ?_, fun z => ?_⟩
        · exact zs_mono (fun p hp => zs_in hp.1) (fun p r hp e => zs_go hp ⟨e.2.1, fun z => e.2.2 (by rw [z])⟩) z
        · exact zs_mono (fun p hp => zs_in ⟨hp, fun z => c (Option.some.inj z)⟩) (fun p r hp e => zs_go hp ⟨(fun v hv => by cases hv), e.1, fun z => e.2 (Option.some.inj z)⟩) z
      rcases b5 x hx12 with z | z
      · exact ⟨false, by rw [z]; rfl, by rw [← key, z]; simp⟩
      · exact ⟨true, by rw [z]; rfl, by rw [← key, z]; simp⟩
    refine zh_up (F := fun fu i N => lf_M_isInLoop_72 52 (nI y) (mm_n N1 + 1) fu i N) (zp_nb P) (fun i N' => zf_F N N' zt_A ∧ ∀ x, x < i → ¬ (zs_P (fun x z => zp_ed P x z = true ∧ z ≠ y) b x ∧ zp_BE P x y)) ?_ ?_ fu_L 0 N (Nat.zero_le _) (by rw [zs_fuel]; omega) ⟨zf_rfl _ _, fun x hx => absurd hx (Nat.not_lt_zero _)⟩
    · intro fu i N' hi ⟨p1, p2⟩ k
      have hS' : zt_S N' o P := hSN.keepA p1 (fun a h => h)
      show zh_H (lb_M_isInLoop_72 52 (nI y) (mm_n N1 + 1) (lf_M_isInLoop_72 52 (nI y) (mm_n N1 + 1) fu) (nI i) N') _
      unfold lb_M_isInLoop_72
      obtain ⟨d, ed, hd⟩ := row p1 i hi
      have next : ∀ {N2 : mm_T}, zf_F N' N2 zt_A → ¬ (zs_P (fun x z => zp_ed P x z = true ∧ z ≠ y) b i ∧ zp_BE P i y) → zh_H (lf_M_isInLoop_72 52 (nI y) (mm_n N1 + 1) fu (nI (i + 1)) N2) _ := fun {N2} fz z => k N2 ⟨zf_tr p1 fz, fun x hx => by
        rcases Nat.lt_or_ge x i with z2 | z2
        · exact p2 x z2
        · rw [show x = i by omega]; exact z⟩
      rw [zt_nb hS', Option.bind_some, if_neg (nI_ge hi (by omega)), ed]
      simp only [zq_jp, Option.bind_some, nI_1]
      cases d with
      | false =>
        rw [if_pos (by decide)]
        exact next (zf_rfl _ _) (fun z => by have := hd.mpr z.1; cases this)
      | true =>
        rw [if_neg (by decide)]
        refine zt_Qbd (zt_isBackEdge hS' hi hy) (fun N2 fz qz => ?_) (fun N2 fz qz => ?_)
        · rw [if_neg (by decide)]
          exact zt_QXt (zu_wk (zu_tr gX (zu_F (zf_tr p1 fz))) (by omega) (by omega) (fun a h => h)) ⟨q, q1, Or.inr ⟨i, qz, hd.mp rfl⟩⟩
        · rw [if_pos rfl]
          exact next fz (fun z => qz z.2)
    · intro fu N' ⟨p1, p2⟩
      have hS' : zt_S N' o P := hSN.keepA p1 (fun a h => h)
      show zh_H (lb_M_isInLoop_72 52 (nI y) (mm_n N1 + 1) (lf_M_isInLoop_72 52 (nI y) (mm_n N1 + 1) fu) (nI (zp_nb P)) N') _
      unfold lb_M_isInLoop_72
      rw [zt_nb hS', Option.bind_some, if_pos (nI_le (Nat.le_refl _) (by omega))]
      refine zt_QXf (zu_wk (zu_tr gX (zu_F p1)) (by omega) (by omega) (fun a h => h)) (fun z => ?_)
      rcases z.2.2 with z | ⟨x, z1, z2⟩
      · exact c z
      · exact p2 x (zp_ed_lt hV z1.1).1 ⟨z2, z1⟩
end ZR8
