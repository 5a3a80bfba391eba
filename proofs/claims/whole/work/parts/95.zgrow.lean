/-! ===== frames with growth ===== -/
/-- at most k more cells and u more slots; old cells keep kind and refs, and ints and longs outside A -/
def zf_X (M M' : mm_T) (A : Nat → Prop) (k u : Nat) : Prop := mm_n M ≤ mm_n M' ∧ mm_n M' ≤ mm_n M + k ∧ mm_c M' ≤ mm_c M + k ∧ mm_u M' ≤ mm_u M + u ∧ (∀ a, a ≤ mm_n M → mm_K M' a = mm_K M a ∧ ∀ j, mm_R M' a j = mm_R M a j) ∧ ∀ a, a ≤ mm_n M → ¬ A a → ∀ j, mm_I M' a j = mm_I M a j ∧ mm_J M' a j = mm_J M a j
theorem zu_F {M M' : mm_T} {A : Nat → Prop} (h : zf_F M M' A) : zf_X M M' A 0 0 := ⟨Nat.le_of_eq h.1.symm, Nat.le_of_eq h.1, Nat.le_of_eq h.2.1, Nat.le_of_eq h.2.2.1, fun a _ => ⟨by rw [h.2.2.2.1], fun j => zf_R h a j⟩, fun a _ hA j => h.2.2.2.2.2 a hA j⟩
theorem zu_rfl (M : mm_T) (A : Nat → Prop) : zf_X M M A 0 0 := zu_F (zf_rfl M A)
theorem zu_tr {M M1 M2 : mm_T} {A : Nat → Prop} {k u l w : Nat} (h : zf_X M M1 A k u) (h2 : zf_X M1 M2 A l w) : zf_X M M2 A (k + l) (u + w) := by
  obtain ⟨a1, a2, a3, a4, a5, a6⟩ := h
  obtain ⟨b1, b2, b3, b4, b5, b6⟩ := h2
  exact ⟨by omega, by omega, by omega, by omega, fun a q => ⟨(b5 a (by omega)).1.trans (a5 a q).1, fun j => ((b5 a (by omega)).2 j).trans ((a5 a q).2 j)⟩, fun a q hA j => ⟨(b6 a (by omega) hA j).1.trans (a6 a q hA j).1, (b6 a (by omega) hA j).2.trans (a6 a q hA j).2⟩⟩
theorem zu_wk {M M1 : mm_T} {A B : Nat → Prop} {k u l w : Nat} (h : zf_X M M1 A k u) (hk : k ≤ l) (hu : u ≤ w) (hAB : ∀ a, A a → B a) : zf_X M M1 B l w := by
  obtain ⟨a1, a2, a3, a4, a5, a6⟩ := h
  exact ⟨a1, by omega, by omega, by omega, a5, fun a q hA => a6 a q (fun z => hA (hAB a z))⟩
theorem zu_in {M : mm_T} {a : Nat} {kd : Nat × Nat} (e : mm_k M a = kd) (hk : kd.1 ≠ 99) : 1 ≤ a ∧ a ≤ mm_n M := by
  unfold mm_k at e
  split at e
  · assumption
  · exact absurd (by rw [← e]) hk
theorem zu_k {M M' : mm_T} {A : Nat → Prop} {k u a : Nat} (h : zf_X M M' A k u) (ha : a ≤ mm_n M) : mm_k M' a = mm_k M a := by
  unfold mm_k
  have := h.1
  rw [(h.2.2.2.2.1 a ha).1]
  by_cases c : 1 ≤ a
  · rw [if_pos ⟨c, by omega⟩, if_pos ⟨c, ha⟩]
  · rw [if_neg (fun q => c q.1), if_neg (fun q => c q.1)]
theorem zu_R {M M' : mm_T} {A : Nat → Prop} {k u a : Nat} (h : zf_X M M' A k u) (ha : a ≤ mm_n M) (j : Nat) : mm_R M' a j = mm_R M a j := (h.2.2.2.2.1 a ha).2 j
theorem zu_i {M M' : mm_T} {A : Nat → Prop} {k u a : Nat} (h : zf_X M M' A k u) (ha : a ≤ mm_n M) (hA : ¬ A a) (j : Nat) : mm_I M' a j = mm_I M a j := (h.2.2.2.2.2 a ha hA j).1
theorem zu_j {M M' : mm_T} {A : Nat → Prop} {k u a : Nat} (h : zf_X M M' A k u) (ha : a ≤ mm_n M) (hA : ¬ A a) (j : Nat) : mm_J M' a j = mm_J M a j := (h.2.2.2.2.2 a ha hA j).2
theorem zu_al (M : mm_T) (kd : Nat × Nat) (w : Nat) (A : Nat → Prop) : zf_X M (mm_al M kd w) A 1 w := by
  refine ⟨Nat.le_succ _, Nat.le_refl _, Nat.le_refl _, Nat.le_refl _, fun a ha => ⟨?_, fun j => ?_⟩, fun a ha hA j => ⟨?_, ?_⟩⟩
  · show (if a = mm_n M + 1 then kd else mm_K M a) = _
    rw [if_neg (by omega)]
  · show (if a = mm_n M + 1 then 0 else mm_R M a j) = _
    rw [if_neg (by omega)]
  · show (if a = mm_n M + 1 then 0 else mm_I M a j) = _
    rw [if_neg (by omega)]
  · show (if a = mm_n M + 1 then 0 else mm_J M a j) = _
    rw [if_neg (by omega)]
theorem zu_ex (M : mm_T) (A : Nat → Prop) : zf_X M (mm_ex M) A 1 6 := ⟨Nat.le_refl _, Nat.le_succ _, Nat.le_refl _, Nat.le_refl _, fun _ _ => ⟨rfl, fun _ => rfl⟩, fun _ _ _ _ => ⟨rfl, rfl⟩⟩
theorem zu_alk (M : mm_T) (kd : Nat × Nat) (w : Nat) : mm_k (mm_al M kd w) (mm_n M + 1) = kd := by
  unfold mm_k
  rw [if_pos ⟨by omega, Nat.le_refl _⟩]
  show (if mm_n M + 1 = mm_n M + 1 then kd else mm_K M (mm_n M + 1)) = _
  rw [if_pos rfl]
theorem zu_alI (M : mm_T) (kd : Nat × Nat) (w j : Nat) : mm_I (mm_al M kd w) (mm_n M + 1) j = 0 := by
  show (if mm_n M + 1 = mm_n M + 1 then 0 else mm_I M (mm_n M + 1) j) = _
  rw [if_pos rfl]
theorem zu_na {M : mm_T} {kd n : Nat} (hn : n ≤ 100000) (h : mm_n M + 1 < st_B) : na_K kd M (nI n) = some (mm_n M + 1, mm_al M (kd, n) n) := by
  have e := nI_toInt (n := n) (by omega)
  unfold na_K
  rw [e, if_pos ⟨⟨by omega, by omega⟩, h⟩, Int.toNat_natCast]
/-- the cells below 64 -/
def zf_L (M M' : mm_T) (A : Nat → Prop) : Prop := (∀ a, a ≤ 63 → mm_k M' a = mm_k M a ∧ ∀ j, mm_R M' a j = mm_R M a j) ∧ ∀ a, a ≤ 63 → ¬ A a → ∀ j, mm_I M' a j = mm_I M a j ∧ mm_J M' a j = mm_J M a j
theorem zl_X {M M' : mm_T} {A : Nat → Prop} {k u : Nat} (h : zf_X M M' A k u) (h63 : 63 ≤ mm_n M) : zf_L M M' A := ⟨fun a ha => ⟨zu_k h (by omega), fun j => zu_R h (by omega) j⟩, fun a ha hA j => h.2.2.2.2.2 a (by omega) hA j⟩
theorem zl_F {M M' : mm_T} {A : Nat → Prop} (h : zf_F M M' A) : zf_L M M' A := ⟨fun a _ => ⟨zf_k h a, fun j => zf_R h a j⟩, fun a _ hA j => h.2.2.2.2.2 a hA j⟩
theorem zl_k {M M' : mm_T} {A : Nat → Prop} (h : zf_L M M' A) (a : Nat) (ha : a ≤ 63) : mm_k M' a = mm_k M a := (h.1 a ha).1
theorem zl_R {M M' : mm_T} {A : Nat → Prop} (h : zf_L M M' A) (a : Nat) (ha : a ≤ 63) (j : Nat) : mm_R M' a j = mm_R M a j := (h.1 a ha).2 j
theorem zl_i {M M' : mm_T} {A : Nat → Prop} (h : zf_L M M' A) {a : Nat} (ha : a ≤ 63) (hA : ¬ A a) (j : Nat) : mm_I M' a j = mm_I M a j := (h.2 a ha hA j).1
theorem zl_j {M M' : mm_T} {A : Nat → Prop} (h : zf_L M M' A) {a : Nat} (ha : a ≤ 63) (hA : ¬ A a) (j : Nat) : mm_J M' a j = mm_J M a j := (h.2 a ha hA j).2
theorem zl_tr {M M1 M2 : mm_T} {A : Nat → Prop} (h : zf_L M M1 A) (h2 : zf_L M1 M2 A) : zf_L M M2 A := ⟨fun a ha => ⟨(h2.1 a ha).1.trans (h.1 a ha).1, fun j => ((h2.1 a ha).2 j).trans ((h.1 a ha).2 j)⟩, fun a ha hA j => ⟨(h2.2 a ha hA j).1.trans (h.2 a ha hA j).1, (h2.2 a ha hA j).2.trans (h.2 a ha hA j).2⟩⟩
theorem zl_mono {M M1 : mm_T} {A B : Nat → Prop} (h : zf_L M M1 A) (hAB : ∀ a, A a → B a) : zf_L M M1 B := ⟨h.1, fun a ha hA => h.2 a ha (fun q => hA (hAB a q))⟩
theorem zt_R.keepL {M M' : mm_T} {A : Nat → Prop} (h : zt_R M) (hf : zf_L M M' A) : zt_R M' := by
  unfold zt_R
  simp only [zl_k hf, zl_R hf, Nat.reduceLeDiff]
  exact h
theorem zt_S.keepL {M M' : mm_T} {A : Nat → Prop} {o : Nat} {P : zp_T} (h : zt_S M o P) (hf : zf_L M M' A) (hA : ∀ a, A a → zt_A a) : zt_S M' o P :=
  ⟨h.1.keepL hf, (zl_i hf (by omega) (fun q => by have := hA _ q; unfold zt_A at this; omega) 2).trans h.2.1, h.2.2.1, h.2.2.2.1.keep (fun k => zl_i hf (by omega) (fun q => by have := hA _ q; unfold zt_A at this; omega) k), h.2.2.2.2⟩
