/-! ===== the class: a Program object is made; the history keeps and takes back ===== -/
/-- general frame: at most k more cells and u more slots; old cells keep their kinds, and all but A keep all -/
def zy_Y (M M' : mm_T) (A : Nat → Prop) (k u : Nat) : Prop := mm_n M ≤ mm_n M' ∧ mm_n M' ≤ mm_n M + k ∧ mm_c M' ≤ mm_c M + k ∧ mm_u M' ≤ mm_u M + u ∧ (∀ a, a ≤ mm_n M → mm_K M' a = mm_K M a) ∧ ∀ a, a ≤ mm_n M → ¬ A a → ∀ j, mm_R M' a j = mm_R M a j ∧ mm_I M' a j = mm_I M a j ∧ mm_J M' a j = mm_J M a j
theorem zy_Yrfl (M : mm_T) (A : Nat → Prop) : zy_Y M M A 0 0 := ⟨Nat.le_refl _, Nat.le_refl _, Nat.le_refl _, Nat.le_refl _, fun _ _ => rfl, fun _ _ _ _ => ⟨rfl, rfl, rfl⟩⟩
theorem zy_YX {M M' : mm_T} {A : Nat → Prop} {k u : Nat} (h : zf_X M M' A k u) : zy_Y M M' A k u := ⟨h.1, h.2.1, h.2.2.1, h.2.2.2.1, fun a ha => (h.2.2.2.2.1 a ha).1, fun a ha hA j => ⟨(h.2.2.2.2.1 a ha).2 j, h.2.2.2.2.2 a ha hA j⟩⟩
theorem zy_Ytr {M M1 M2 : mm_T} {A : Nat → Prop} {k u l w : Nat} (h : zy_Y M M1 A k u) (h2 : zy_Y M1 M2 A l w) : zy_Y M M2 A (k + l) (u + w) := by
  obtain ⟨a1, a2, a3, a4, a5, a6⟩ := h
  obtain ⟨b1, b2, b3, b4, b5, b6⟩ := h2
  exact ⟨by omega, by omega, by omega, by omega, fun a q => (b5 a (by omega)).trans (a5 a q), fun a q hA j => ⟨(b6 a (by omega) hA j).1.trans (a6 a q hA j).1, (b6 a (by omega) hA j).2.1.trans (a6 a q hA j).2.1, (b6 a (by omega) hA j).2.2.trans (a6 a q hA j).2.2⟩⟩
theorem zy_Ywk {M M1 : mm_T} {A B : Nat → Prop} {k u l w : Nat} (h : zy_Y M M1 A k u) (hk : k ≤ l) (hu : u ≤ w) (hAB : ∀ a, a ≤ mm_n M → A a → B a) : zy_Y M M1 B l w := by
  obtain ⟨a1, a2, a3, a4, a5, a6⟩ := h
  exact ⟨a1, by omega, by omega, by omega, a5, fun a q hA => a6 a q (fun z => hA (hAB a q z))⟩
theorem zy_YR (M : mm_T) (a k r : Nat) : zy_Y M (mm_sR M a k r) (fun x => x = a) 0 0 := ⟨Nat.le_refl _, Nat.le_refl _, Nat.le_refl _, Nat.le_refl _, fun _ _ => rfl, fun x _ hA j => ⟨by rw [zm_RR, if_neg (fun z => hA z.1)], rfl, rfl⟩⟩
theorem zy_Yk {M M' : mm_T} {A : Nat → Prop} {k u a : Nat} (h : zy_Y M M' A k u) (ha : a ≤ mm_n M) : mm_k M' a = mm_k M a := by
  unfold mm_k
  have := h.1
  rw [h.2.2.2.2.1 a ha]
  by_cases c : 1 ≤ a
  · rw [if_pos ⟨c, by omega⟩, if_pos ⟨c, ha⟩]
  · rw [if_neg (fun q => c q.1), if_neg (fun q => c q.1)]
/-- one row of a new Program object -/
theorem zo_row {ρ : Type} {M : mm_T} {t j len : Nat} {K : mm_T → Option ρ} (ht : (mm_k M t).1 = 7) (htn : t ≤ mm_n M) (hl : len ≤ 100000) (hB : mm_n M + 1 < st_B) : (bd_2 (na_K 20 M (nI len)) fun x M1 => (pf_R M1 t 7 j x).bind K) = K (mm_sR (mm_al M (20, len) len) t j (mm_n M + 1)) := by
  unfold bd_2
  rw [zu_na hl hB, Option.bind_some]
  show (pf_R (mm_al M (20, len) len) t 7 j (mm_n M + 1)).bind K = _
  have e : (mm_k (mm_al M (20, len) len) t).1 = 7 := by rw [zu_k (zu_al M (20, len) len (fun _ => False)) htn]; exact ht
  unfold pf_R
  rw [if_pos ⟨e, Nat.le_refl _⟩, Option.bind_some]
/-- what one row does -/
theorem zo_rowY (M : mm_T) {t j len : Nat} : zy_Y M (mm_sR (mm_al M (20, len) len) t j (mm_n M + 1)) (fun a => a = t) 1 len := zy_Ytr (l := 0) (w := 0) (zy_YX (zu_al M (20, len) len (fun a => a = t))) (zy_YR _ _ _ _)
theorem zo_rowN (M : mm_T) (t j len : Nat) : mm_n (mm_sR (mm_al M (20, len) len) t j (mm_n M + 1)) = mm_n M + 1 := rfl
theorem zo_rowK (M : mm_T) (t j len : Nat) : mm_k (mm_sR (mm_al M (20, len) len) t j (mm_n M + 1)) (mm_n M + 1) = (20, len) := zu_alk M (20, len) len
theorem zo_rowR (M : mm_T) {t j len : Nat} (htn : t ≤ mm_n M) (i : Nat) : mm_R (mm_sR (mm_al M (20, len) len) t j (mm_n M + 1)) t i = if i = j then mm_n M + 1 else mm_R M t i := by
  rw [zm_RR]
  by_cases c : i = j
  · rw [if_pos ⟨rfl, c⟩, if_pos c]
  · rw [if_neg (fun z => c z.2), if_neg c]
    exact zu_R (zu_al M (20, len) len (fun _ => False)) htn i
theorem zo_init {M : mm_T} {t : Nat} (ht : mm_k M t = (7, 0)) (hn : mm_n M = t) (hB : t + 7 < st_B) : ∃ M', ff_P_init t M = some M' ∧ zy_Y M M' (fun a => a = t) 6 101 ∧ mm_n M' = t + 6 ∧ zo_P M' t := by
  have h1 : 1 ≤ t := (zu_in ht (by decide)).1
  unfold ff_P_init
  rw [zq_gd (by rw [ht])]
  have st : ∀ (N : mm_T) (j len : Nat), (mm_k N t).1 = 7 → t ≤ mm_n N → (mm_k (mm_sR (mm_al N (20, len) len) t j (mm_n N + 1)) t).1 = 7 := fun N j len e hN => by rw [zy_Yk (zo_rowY N) hN]; exact e
  have k0 : (mm_k M t).1 = 7 := by rw [ht]
  rw [show (40 : Int32) = nI 40 from rfl, zo_row (len := 40) k0 (by omega) (by omega) (by omega)]
  generalize e1 : mm_sR (mm_al M (20, 40) 40) t 2 (mm_n M + 1) = M1
  have y1 : zy_Y M M1 (fun a => a = t) 1 40 := e1 ▸ zo_rowY M
  have n1 : mm_n M1 = t + 1 := by rw [← e1, zo_rowN, hn]
  have r1 : ∀ i, mm_R M1 t i = if i = 2 then t + 1 else mm_R M t i := fun i => by rw [← e1, zo_rowR M (by omega), hn]
  have c1 : mm_k M1 (t + 1) = (20, 40) := by rw [← e1, ← hn]; exact zo_rowK M _ _ _
  have k1 : (mm_k M1 t).1 = 7 := by rw [zy_Yk y1 (by omega)]; exact k0
  rw [show (13 : Int32) = nI 13 from rfl, zo_row (len := 13) k1 (by omega) (by omega) (by omega)]
  generalize e2 : mm_sR (mm_al M1 (20, 13) 13) t 3 (mm_n M1 + 1) = M2
  have y2 : zy_Y M1 M2 (fun a => a = t) 1 13 := e2 ▸ zo_rowY M1
  have n2 : mm_n M2 = t + 2 := by rw [← e2, zo_rowN, n1]
  have r2 : ∀ i, mm_R M2 t i = if i = 3 then t + 2 else mm_R M1 t i := fun i => by rw [← e2, zo_rowR M1 (by omega), n1]
  have c2 : mm_k M2 (t + 2) = (20, 13) := by rw [← e2, show t + 2 = mm_n M1 + 1 by omega]; exact zo_rowK M1 _ _ _
  have k2 : (mm_k M2 t).1 = 7 := by rw [zy_Yk y2 (by omega)]; exact k1
  rw [show (12 : Int32) = nI 12 from rfl, zo_row (len := 12) k2 (by omega) (by omega) (by omega)]
  generalize e3 : mm_sR (mm_al M2 (20, 12) 12) t 4 (mm_n M2 + 1) = M3
  have y3 : zy_Y M2 M3 (fun a => a = t) 1 12 := e3 ▸ zo_rowY M2
  have n3 : mm_n M3 = t + 3 := by rw [← e3, zo_rowN, n2]
  have r3 : ∀ i, mm_R M3 t i = if i = 4 then t + 3 else mm_R M2 t i := fun i => by rw [← e3, zo_rowR M2 (by omega), n2]
  have c3 : mm_k M3 (t + 3) = (20, 12) := by rw [← e3, show t + 3 = mm_n M2 + 1 by omega]; exact zo_rowK M2 _ _ _
  have k3 : (mm_k M3 t).1 = 7 := by rw [zy_Yk y3 (by omega)]; exact k2
  rw [zo_row (len := 12) k3 (by omega) (by omega) (by omega)]
  generalize e4 : mm_sR (mm_al M3 (20, 12) 12) t 5 (mm_n M3 + 1) = M4
  have y4 : zy_Y M3 M4 (fun a => a = t) 1 12 := e4 ▸ zo_rowY M3
  have n4 : mm_n M4 = t + 4 := by rw [← e4, zo_rowN, n3]
  have r4 : ∀ i, mm_R M4 t i = if i = 5 then t + 4 else mm_R M3 t i := fun i => by rw [← e4, zo_rowR M3 (by omega), n3]
  have c4 : mm_k M4 (t + 4) = (20, 12) := by rw [← e4, show t + 4 = mm_n M3 + 1 by omega]; exact zo_rowK M3 _ _ _
  have k4 : (mm_k M4 t).1 = 7 := by rw [zy_Yk y4 (by omega)]; exact k3
  rw [zo_row (len := 12) k4 (by omega) (by omega) (by omega)]
  generalize e5 : mm_sR (mm_al M4 (20, 12) 12) t 6 (mm_n M4 + 1) = M5
  have y5 : zy_Y M4 M5 (fun a => a = t) 1 12 := e5 ▸ zo_rowY M4
  have n5 : mm_n M5 = t + 5 := by rw [← e5, zo_rowN, n4]
  have r5 : ∀ i, mm_R M5 t i = if i = 6 then t + 5 else mm_R M4 t i := fun i => by rw [← e5, zo_rowR M4 (by omega), n4]
  have c5 : mm_k M5 (t + 5) = (20, 12) := by rw [← e5, show t + 5 = mm_n M4 + 1 by omega]; exact zo_rowK M4 _ _ _
  have k5 : (mm_k M5 t).1 = 7 := by rw [zy_Yk y5 (by omega)]; exact k4
  rw [zo_row (len := 12) k5 (by omega) (by omega) (by omega)]
  generalize e6 : mm_sR (mm_al M5 (20, 12) 12) t 7 (mm_n M5 + 1) = M6
  have y6 : zy_Y M5 M6 (fun a => a = t) 1 12 := e6 ▸ zo_rowY M5
  have n6 : mm_n M6 = t + 6 := by rw [← e6, zo_rowN, n5]
  have r6 : ∀ i, mm_R M6 t i = if i = 7 then t + 6 else mm_R M5 t i := fun i => by rw [← e6, zo_rowR M5 (by omega), n5]
  have c6 : mm_k M6 (t + 6) = (20, 12) := by rw [← e6, show t + 6 = mm_n M5 + 1 by omega]; exact zo_rowK M5 _ _ _
  refine ⟨M6, rfl, zy_Ytr (zy_Ytr (zy_Ytr (zy_Ytr (zy_Ytr y1 y2) y3) y4) y5) y6, n6, ?_, ⟨?_, ?_, ?_, ?_, ?_, ?_⟩, ?_, ?_, ?_, ?_, ?_, c6⟩
  · rw [zy_Yk y6 (by omega), zy_Yk y5 (by omega), zy_Yk y4 (by omega), zy_Yk y3 (by omega), zy_Yk y2 (by omega), zy_Yk y1 (by omega), ht]
  · rw [r6, if_neg (by omega), r5, if_neg (by omega), r4, if_neg (by omega), r3, if_neg (by omega), r2, if_neg (by omega), r1, if_pos rfl]
  · rw [r6, if_neg (by omega), r5, if_neg (by omega), r4, if_neg (by omega), r3, if_neg (by omega), r2, if_pos rfl]
  · rw [r6, if_neg (by omega), r5, if_neg (by omega), r4, if_neg (by omega), r3, if_pos rfl]
  · rw [r6, if_neg (by omega), r5, if_neg (by omega), r4, if_pos rfl]
  · rw [r6, if_neg (by omega), r5, if_pos rfl]
  · rw [r6, if_pos rfl]
  · rw [zy_Yk y6 (by omega), zy_Yk y5 (by omega), zy_Yk y4 (by omega), zy_Yk y3 (by omega), zy_Yk y2 (by omega), c1]
  · rw [zy_Yk y6 (by omega), zy_Yk y5 (by omega), zy_Yk y4 (by omega), zy_Yk y3 (by omega), c2]
  · rw [zy_Yk y6 (by omega), zy_Yk y5 (by omega), zy_Yk y4 (by omega), c3]
  · rw [zy_Yk y6 (by omega), zy_Yk y5 (by omega), c4]
  · rw [zy_Yk y6 (by omega), c5]
/-- a whole new Program object -/
theorem zo_new {M : mm_T} (hB : mm_n M + 8 < st_B) : ∃ M', (∀ {ρ : Type} (K : Nat → mm_T → Option ρ), (bd_2 (no_C 7 M) fun x N => (ff_P_init x N).bind fun N' => K x N') = K (mm_n M + 1) M') ∧ zf_X M M' (fun _ => False) 7 109 ∧ mm_n M' = mm_n M + 7 ∧ zo_P M' (mm_n M + 1) := by
  have kk : mm_k (mm_al M (7, 0) (kn_N 7)) (mm_n M + 1) = (7, 0) := zu_alk M (7, 0) _
  have nn : mm_n (mm_al M (7, 0) (kn_N 7)) = mm_n M + 1 := rfl
  obtain ⟨M', e, y, n, p⟩ := zo_init kk nn (by omega)
  have x : zf_X M (mm_al M (7, 0) (kn_N 7)) (fun _ => False) 1 8 := zu_al _ _ _ _
  refine ⟨M', fun K => ?_, ?_, by rw [n], p⟩
  · unfold bd_2 no_C
    rw [if_pos (by omega), Option.bind_some]
    show (ff_P_init (mm_n M + 1) (mm_al M (7, 0) (kn_N 7))).bind _ = _
    rw [e, Option.bind_some]
  · obtain ⟨a1, a2, a3, a4, a5, a6⟩ := y
    have x1 := x.1
    have x2 := x.2.1
    have x3 := x.2.2.1
    have x4 := x.2.2.2.1
    refine ⟨by omega, by omega, by omega, by omega, fun a ha => ⟨?_, fun j => ?_⟩, fun a ha hA j => ⟨?_, ?_⟩⟩
    · rw [a5 a (by omega), (x.2.2.2.2.1 a ha).1]
    · rw [(a6 a (by omega) (by omega) j).1, (x.2.2.2.2.1 a ha).2]
    · rw [(a6 a (by omega) (by omega) j).2.1, (x.2.2.2.2.2 a ha hA j).1]
    · rw [(a6 a (by omega) (by omega) j).2.2, (x.2.2.2.2.2 a ha hA j).2]
/-! a reference in rows 16 or 17 is no business of the questions -/
theorem zc_Q.setR {M : mm_T} {P : zp_T} (h : zc_Q M P) {a : Nat} (ha : a = 16 ∨ a = 17) (j r : Nat) : zc_Q (mm_sR M a j r) P := by
  have e : ∀ x, x ≠ 16 → x ≠ 17 → ∀ i, mm_R (mm_sR M a j r) x i = mm_R M x i := fun x z1 z2 i => by rw [zm_RR, if_neg (by omega)]
  obtain ⟨h1, ⟨h2, h3, h4⟩, ⟨g1, g2, g3, g4, g5⟩, f1, f2, f3, f4, f5⟩ := h
  refine ⟨?_, ⟨?_, h3, h4⟩, ⟨?_, ?_, ?_, ?_, ?_⟩, f1, f2, f3, f4, f5⟩
  · unfold zk_D at h1 ⊢
    simp only [zm_kR, e 1 (by omega) (by omega)]
    exact h1
  · unfold zo_P at h2 ⊢
    simp only [zm_kR, e 45 (by omega) (by omega)]
    exact h2
  · unfold zk_G at g1 ⊢
    simp only [zm_kR, e 18 (by omega) (by omega)]
    exact g1
  · unfold zk_R at g2 ⊢
    simp only [zm_kR, e 24 (by omega) (by omega)]
    exact g2
  · unfold zk_L at g3 ⊢
    simp only [zm_kR, e 28 (by omega) (by omega)]
    exact g3
  · unfold zk_A at g4 ⊢
    simp only [zm_kR, e 31 (by omega) (by omega)]
    exact g4
  · unfold zk_C at g5 ⊢
    simp only [zm_kR, e 35 (by omega) (by omega)]
    exact g5
theorem zo_P.setR {M : mm_T} {t : Nat} (h : zo_P M t) {a : Nat} (ha : a ≠ t) (j r : Nat) : zo_P (mm_sR M a j r) t := by
  have e : ∀ i, mm_R (mm_sR M a j r) t i = mm_R M t i := fun i => by rw [zm_RR, if_neg (fun z => ha z.1.symm)]
  unfold zo_P at h ⊢
  simp only [zm_kR, e]
  exact h
