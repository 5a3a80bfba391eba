/-! ===== dominance, and the reference's questions on it ===== -/
theorem zp_AV_via {P : zp_T} {a b c : Nat} (h : zp_AV P a c) : zp_AV P a b ∨ zp_AV P b c := by
  refine zs_ind (S := fun c => zp_AV P a b ∨ zp_AV P b c) (fun p hp => ?_) (fun x y hx ih e => ?_) h
  · by_cases e : b = 0
    · left
      rw [e, ← hp.1]
      exact zs_in hp
    · exact Or.inr (zs_in ⟨hp.1, e⟩)
  · rcases ih with ih | ih
    · exact Or.inl ih
    · by_cases c : y = b
      · left
        rw [← c]
        exact zs_go hx e
      · exact Or.inr (zs_go ih ⟨e.1, c⟩)
theorem zp_DM_tr {P : zp_T} {a b c : Nat} (h : zp_DM P a b) (h2 : zp_DM P b c) : zp_DM P a c := ⟨h2.1, fun q => (zp_AV_via (b := b) q).elim h.2 h2.2⟩
theorem zp_AV_tot {P : zp_T} {a b x : Nat} (h1 : zp_AV P a b) (h2 : zp_AV P b a) (hx : zp_RB P x) : zp_AV P a x ∨ zp_AV P b x := by
  refine zs_ind (S := fun x => zp_AV P a x ∨ zp_AV P b x) (fun p hp => ?_) (fun x y hx ih e => ?_) hx
  · by_cases c : a = 0
    · right
      rw [hp, ← c]
      exact h2
    · exact Or.inl (zs_in ⟨hp, c⟩)
  · by_cases ca : y = a
    · right; rw [ca]; exact h2
    · by_cases cb : y = b
      · left; rw [cb]; exact h1
      · exact ih.imp (fun q => zs_go q ⟨e, ca⟩) (fun q => zs_go q ⟨e, cb⟩)
/-- a step onto a that has not passed b, for a reached a other than b -/
theorem zp_AV_or {P : zp_T} {a b : Nat} (hb : zp_RB P b) (ne : a ≠ b) : zp_AV P a b ∨ zp_AV P b a := by
  refine Classical.byContradiction fun hn => ?_
  have n1 : ¬ zp_AV P a b := fun q => hn (Or.inl q)
  have n2 : ¬ zp_AV P b a := fun q => hn (Or.inr q)
  have : ∀ x, zp_RB P x → zp_AV P a x ∧ zp_AV P b x := by
    intro x hx
    refine zs_ind (S := fun x => zp_AV P a x ∧ zp_AV P b x) (fun p hp => ?_) (fun x y hx ih e => ?_) hx
    · have ca : a ≠ 0 := fun c => n2 (by rw [c]; exact zs_in ⟨rfl, fun q => ne (c.trans q.symm)⟩)
      have cb : b ≠ 0 := fun c => n1 (by rw [c]; exact zs_in ⟨rfl, fun q => ne (q.trans c.symm)⟩)
      exact ⟨zs_in ⟨hp, ca⟩, zs_in ⟨hp, cb⟩⟩
    · have ca : y ≠ a := fun c => n2 (by rw [← c]; exact zs_go ih.2 ⟨e, fun q => ne (c.symm.trans q)⟩)
      have cb : y ≠ b := fun c => n1 (by rw [← c]; exact zs_go ih.1 ⟨e, fun q => ne (q.symm.trans c)⟩)
      exact ⟨zs_go ih.1 ⟨e, ca⟩, zs_go ih.2 ⟨e, cb⟩⟩
  exact n1 (this b hb).1
theorem zp_DM_anti {P : zp_T} {a b : Nat} (h : zp_DM P a b) (h2 : zp_DM P b a) : a = b := Classical.byContradiction fun ne => (zp_AV_or h.1 ne).elim h.2 h2.2
theorem zp_DM_lin {P : zp_T} {a b x : Nat} (h : zp_DM P a x) (h2 : zp_DM P b x) : zp_DM P a b ∨ zp_DM P b a := by
  refine Classical.byContradiction fun hn => ?_
  have n1 : zp_AV P a b := Classical.byContradiction fun q => hn (Or.inl ⟨zp_DM_RB h2, q⟩)
  have n2 : zp_AV P b a := Classical.byContradiction fun q => hn (Or.inr ⟨zp_DM_RB h, q⟩)
  exact (zp_AV_tot n1 n2 h.1).elim h.2 h2.2
theorem zp_DM_lt {P : zp_T} (hV : zp_V P) {a b : Nat} (h : zp_DM P a b) : a < zp_nb P ∧ b < zp_nb P := ⟨zp_RB_lt hV (zp_DM_RB h), zp_RB_lt hV h.1⟩
noncomputable def zp_gc (P : zp_T) (b : Nat) : Nat := fb_ct (fun a => zp_b (zp_DM P a b)) (zp_nb P)
theorem zp_gc_lt {P : zp_T} (hV : zp_V P) {c d : Nat} (h : zp_DM P c d) (ne : c ≠ d) : zp_gc P c < zp_gc P d := by
  refine zs_ctlt ?_ (zp_DM_lt hV h).2 ?_ ?_
  · intro x hx q
    exact zp_b_iff.mpr (zp_DM_tr (zp_b_iff.mp q) h)
  · cases e : zp_b (zp_DM P d c) with
    | false => rfl
    | true => exact absurd (zp_DM_anti h (zp_b_iff.mp e)) ne
  · exact zp_b_iff.mpr (zp_DM_self h.1)
/-- the nearest of the blocks C: the one that all of C dominate -/
def zp_NG (P : zp_T) (C : Nat → Prop) (r : Option Nat) : Prop := (r = none ∧ ∀ x, ¬ C x) ∨ ∃ c, r = some c ∧ C c ∧ ∀ d, zp_DM P d c ↔ C d
theorem zp_NG_one {P : zp_T} {C : Nat → Prop} {r s : Option Nat} (h : zp_NG P C r) (h2 : zp_NG P C s) : r = s := by
  rcases h with ⟨rfl, h⟩ | ⟨c, rfl, h, hd⟩
  · rcases h2 with ⟨rfl, _⟩ | ⟨d, rfl, h2, _⟩
    · rfl
    · exact absurd h2 (h d)
  · rcases h2 with ⟨rfl, h2⟩ | ⟨d, rfl, h2, hd2⟩
    · exact absurd h (h2 c)
    · rw [zp_DM_anti ((hd2 c).mpr h) ((hd d).mpr h2)]
/-- what the nearest takes: C goes down along dominance, and is a chain -/
def zp_CH (P : zp_T) (C : Nat → Prop) : Prop := (∀ x d, C x → zp_DM P d x → C d) ∧ ∀ x y, C x → C y → zp_DM P x y ∨ zp_DM P y x
theorem zp_NG_max {P : zp_T} (hV : zp_V P) {C : Nat → Prop} (hC : zp_CH P C) {c : Nat} (hc : C c) (hm : ∀ x, C x → zp_gc P x ≤ zp_gc P c) : zp_NG P C (some c) := by
  refine Or.inr ⟨c, rfl, hc, fun d => ⟨fun q => hC.1 c d hc q, fun q => ?_⟩⟩
  rcases hC.2 d c q hc with z | z
  · exact z
  · by_cases e : c = d
    · rw [← e]; exact zp_DM_self z.1 |> fun z2 => by rw [← e] at z2; exact z2
    · have := zp_gc_lt hV z e
      have := hm d q
      omega
theorem zp_NG_ex {P : zp_T} (hV : zp_V P) {C : Nat → Prop} (hC : zp_CH P C) : ∃ r, zp_NG P C r := by
  have key : ∀ n, (∀ x, x < n → ¬ C x) ∨ ∃ c, C c ∧ ∀ x, x < n → C x → zp_gc P x ≤ zp_gc P c := by
    intro n
    induction n with
    | zero => exact Or.inl fun x hx => absurd hx (Nat.not_lt_zero _)
    | succ n ih =>
      by_cases cn : C n
      · rcases ih with ih | ⟨c, hc, ih⟩
        · exact Or.inr ⟨n, cn, fun x hx q => by
            rcases Nat.lt_or_ge x n with z | z
            · exact absurd q (ih x z)
            · rw [show x = n by omega]; exact Nat.le_refl _⟩
        · by_cases g : zp_gc P n ≤ zp_gc P c
          · exact Or.inr ⟨c, hc, fun x hx q => by
              rcases Nat.lt_or_ge x n with z | z
              · exact ih x z q
              · rw [show x = n by omega]; exact g⟩
          · exact Or.inr ⟨n, cn, fun x hx q => by
              rcases Nat.lt_or_ge x n with z | z
              · have := ih x z q; omega
              · rw [show x = n by omega]; exact Nat.le_refl _⟩
      · rcases ih with ih | ⟨c, hc, ih⟩
        · exact Or.inl fun x hx q => by
            rcases Nat.lt_or_ge x n with z | z
            · exact ih x z q
            · rw [show x = n by omega] at q; exact cn q
        · exact Or.inr ⟨c, hc, fun x hx q => by
            rcases Nat.lt_or_ge x n with z | z
            · exact ih x z q
            · rw [show x = n by omega] at q; exact absurd q cn⟩
  have lt : ∀ x, C x → x < zp_nb P := fun x q => by
    rcases hC.2 x x q q with z | z <;> exact (zp_DM_lt hV z).1
  rcases key (zp_nb P) with k | ⟨c, hc, k⟩
  · exact ⟨none, Or.inl ⟨rfl, fun x q => k x (lt x q) q⟩⟩
  · exact ⟨some c, zp_NG_max hV hC hc (fun x q => k x (lt x q) q)⟩
def zp_C1 (P : zp_T) (a x : Nat) : Prop := zp_DM P x a ∧ x ≠ a
def zp_C2 (P : zp_T) (a b x : Nat) : Prop := zp_DM P x a ∧ zp_DM P x b
theorem zp_CH1 (P : zp_T) (a : Nat) : zp_CH P (zp_C1 P a) := ⟨fun x d h q => ⟨zp_DM_tr q h.1, fun e => h.2 (by rw [e] at q; exact zp_DM_anti h.1 q)⟩, fun x y h h2 => zp_DM_lin h.1 h2.1⟩
theorem zp_CH2 (P : zp_T) (a b : Nat) : zp_CH P (zp_C2 P a b) := ⟨fun x d h q => ⟨zp_DM_tr q h.1, zp_DM_tr q h.2⟩, fun x y h h2 => zp_DM_lin h.1 h2.1⟩
section ZR6
variable {M : mm_T} {o : Nat} {P : zp_T}
theorem zt_governs (h : zt_S M o P) {a b : Nat} (ha : a < 12) (hb : b < 12) : zt_Q (ff_M_governs 52 (nI a) (nI b) M) M (zp_DM P a b) := by
  have e52 : (mm_k M 52).1 = 11 := by rw [h.1.1]
  refine zt_Qh ?_
  unfold ff_M_governs
  rw [zq_gd e52]
  refine zt_Qbd (zt_isReached h ha) (fun N f q => ?_) (fun N f q => ?_)
  · rw [if_neg (by decide)]
    have h1 : zt_S N o P := h.keepA f (fun a h => h)
    refine zt_Qbd (zt_isReached h1 hb) (fun N1 f1 q1 => ?_) (fun N1 f1 q1 => ?_)
    · rw [if_neg (by decide), zq_jp]
      have h2 : zt_S N1 o P := h1.keepA f1 (fun a h => h)
      by_cases c : a = b
      · rw [if_pos (show nI a = nI b by rw [c])]
        exact zt_Qt (zf_tr f f1) (by rw [c]; exact zp_DM_self q1)
      · rw [if_neg (show ¬ nI a = nI b from fun q => c ((nI_eq (by omega) (by omega)).mp q))]
        refine zt_Qbd (zt_isReachedB h2 (show a < 2 ^ 31 by omega) hb) (fun N2 f2 q2 => ?_) (fun N2 f2 q2 => ?_)
        · rw [if_neg (by decide)]
          exact zt_Qf (zf_tr f (zf_tr f1 f2)) (fun z => z.2 q2)
        · rw [if_pos rfl]
          exact zt_Qt (zf_tr f (zf_tr f1 f2)) ⟨q1, q2⟩
    · rw [if_pos rfl]
      exact zt_Qf (zf_tr f f1) (fun z => q1 z.1)
  · rw [if_pos rfl]
    exact zt_Qf f (fun z => q (zp_DM_RB z))
theorem zt_governors (h : zt_S M o P) {b : Nat} (hb : b < 12) : ∃ M', ff_M_governors 52 (nI b) M = some (nI (zp_gc P b), M') ∧ zf_F M M' zt_A := by
  have hV := h.2.2.2.2
  have hnb := hV.2.1
  have e52 : (mm_k M 52).1 = 11 := by rw [h.1.1]
  suffices goal : zh_H (ff_M_governors 52 (nI b) M) (fun y => ∃ M', y = (nI (zp_gc P b), M') ∧ zf_F M M' zt_A) by
    obtain ⟨y, e, M', rfl, g⟩ := goal
    exact ⟨M', e, g⟩
  unfold ff_M_governors
  rw [zq_gd e52]
  refine zh_up (F := fun fu i (s : Int32 × mm_T) => lf_M_governors_4 52 (nI b) fu s.1 i s.2) (zp_nb P) (fun i s => s.1 = nI (fb_ct (fun a => zp_b (zp_DM P a b)) i) ∧ zf_F M s.2 zt_A) ?_ ?_ fu_L 0 (0, M) (Nat.zero_le _) (by rw [zs_fuel]; omega) ⟨rfl, zf_rfl _ _⟩
  · intro fu i s hi ⟨g1, g2⟩ kk
    obtain ⟨x, N⟩ := s
    simp only at g1 g2
    have hS : zt_S N o P := h.keepA g2 (fun a h => h)
    show zh_H (lb_M_governors_4 52 (nI b) (lf_M_governors_4 52 (nI b) fu) x (nI i) N) _
    unfold lb_M_governors_4
    rw [zt_nb hS, Option.bind_some, if_neg (nI_ge hi (by omega))]
    obtain ⟨c, N', eN, fN, hc⟩ := zt_governs hS (show i < 12 by omega) hb
    refine zh_at2 eN ?_
    rw [zt_one, Option.bind_some, Option.bind_some, Option.bind_some, nI_1, g1, nI_add]
    refine kk (_, N') ⟨?_, zf_tr g2 fN⟩
    rw [fb_ct_succ, zp_b_eq hc]
    rfl
  · intro fu s ⟨g1, g2⟩
    obtain ⟨x, N⟩ := s
    simp only at g1 g2
    have hS : zt_S N o P := h.keepA g2 (fun a h => h)
    show zh_H (lb_M_governors_4 52 (nI b) (lf_M_governors_4 52 (nI b) fu) x (nI (zp_nb P)) N) _
    unfold lb_M_governors_4
    rw [zt_nb hS, Option.bind_some, if_pos (nI_le (Nat.le_refl _) (by omega)), g1]
    exact zh_some ⟨N, rfl, g2⟩
theorem zt_isBackEdge (h : zt_S M o P) {x y : Nat} (hx : x < zp_nb P) (hy : y < 12) : zt_Q (ff_M_isBackEdge 52 (nI x) (nI y) M) M (zp_BE P x y) := by
  have hV := h.2.2.2.2
  have hnb := hV.2.1
  have e52 : (mm_k M 52).1 = 11 := by rw [h.1.1]
  refine zt_Qh ?_
  unfold ff_M_isBackEdge
  rw [zq_gd e52, zt_leads h hx (by omega), Option.bind_some]
  cases e : zp_ed P x y with
  | false =>
    rw [if_pos (by decide)]
    exact zt_Qf (zf_rfl _ _) (fun z => by have := z.1; rw [e] at this; cases this)
  | true =>
    rw [if_neg (by decide)]
    refine zt_Qbd (zt_governs h hy (show x < 12 by omega)) (fun N f q => ?_) (fun N f q => ?_)
    · rw [if_neg (by decide)]
      exact zt_Qt f ⟨e, q⟩
    · rw [if_pos rfl]
      exact zt_Qf f (fun z => q z.2)
theorem zt_isHead (h : zt_S M o P) {y : Nat} (hy : y < 12) : zt_Q (ff_M_isHead 52 (nI y) M) M (∃ x, zp_BE P x y) := by
  have hV := h.2.2.2.2
  have hnb := hV.2.1
  have e52 : (mm_k M 52).1 = 11 := by rw [h.1.1]
  refine zt_Qh ?_
  unfold ff_M_isHead
  rw [zq_gd e52]
  refine zh_up (F := fun fu i N => lf_M_isHead_2 52 (nI y) fu i N) (zp_nb P) (fun i N => zf_F M N zt_A ∧ ∀ x, x < i → ¬ zp_BE P x y) ?_ ?_ fu_L 0 M (Nat.zero_le _) (by rw [zs_fuel]; omega) ⟨zf_rfl _ _, fun x hx => absurd hx (Nat.not_lt_zero _)⟩
  · intro fu i N hi ⟨g1, g2⟩ kk
    have hS : zt_S N o P := h.keepA g1 (fun a h => h)
    show zh_H (lb_M_isHead_2 52 (nI y) (lf_M_isHead_2 52 (nI y) fu) (nI i) N) _
    unfold lb_M_isHead_2
    rw [zt_nb hS, Option.bind_some, if_neg (nI_ge hi (by omega))]
    refine zt_Qbd (zt_isBackEdge hS hi hy) (fun N1 f q => ?_) (fun N1 f q => ?_)
    · rw [if_neg (by decide)]
      exact zt_Qt (zf_tr g1 f) ⟨i, q⟩
    · rw [if_pos rfl, Option.bind_some, nI_1]
      refine kk N1 ⟨zf_tr g1 f, fun x hx => ?_⟩
      rcases Nat.lt_or_ge x i with z | z
      · exact g2 x z
      · rw [show x = i by omega]; exact q
  · intro fu N ⟨g1, g2⟩
    have hS : zt_S N o P := h.keepA g1 (fun a h => h)
    show zh_H (lb_M_isHead_2 52 (nI y) (lf_M_isHead_2 52 (nI y) fu) (nI (zp_nb P)) N) _
    unfold lb_M_isHead_2
    rw [zt_nb hS, Option.bind_some, if_pos (nI_le (Nat.le_refl _) (by omega))]
    exact zt_Qf g1 (fun ⟨x, hx⟩ => g2 x (zp_ed_lt hV hx.1).1 hx)
end ZR6
