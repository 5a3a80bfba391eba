/-! ===== programs as numbers; what a Program object holds ===== -/
abbrev zp_T : Type := Nat × Nat × (Nat → Nat) × (Nat → Nat × Nat × Nat × Nat) × (Nat → Nat × Nat × Nat × Nat × Nat)
def zp_nb (P : zp_T) : Nat := P.1
def zp_ni (P : zp_T) : Nat := P.2.1
def zp_st (P : zp_T) : Nat → Nat := P.2.2.1
/-- ways, tested variable, first, second -/
def zp_w (P : zp_T) (b : Nat) : Nat := (P.2.2.2.1 b).1
def zp_x (P : zp_T) (b : Nat) : Nat := (P.2.2.2.1 b).2.1
def zp_f (P : zp_T) (b : Nat) : Nat := (P.2.2.2.1 b).2.2.1
def zp_s (P : zp_T) (b : Nat) : Nat := (P.2.2.2.1 b).2.2.2
/-- kind, target, left (the constant of a SET), operator, right -/
def zp_k (P : zp_T) (i : Nat) : Nat := (P.2.2.2.2 i).1
def zp_t (P : zp_T) (i : Nat) : Nat := (P.2.2.2.2 i).2.1
def zp_l (P : zp_T) (i : Nat) : Nat := (P.2.2.2.2 i).2.2.1
def zp_o (P : zp_T) (i : Nat) : Nat := (P.2.2.2.2 i).2.2.2.1
def zp_r (P : zp_T) (i : Nat) : Nat := (P.2.2.2.2 i).2.2.2.2
def zp_iok (q : Nat × Nat × Nat × Nat × Nat) : Prop := q.1 ≤ 3 ∧ q.2.1 < 8 ∧ q.2.2.1 < 1000 ∧ (q.1 ≠ 0 → q.2.2.1 < 8) ∧ q.2.2.2.1 ≤ 2 ∧ q.2.2.2.2 < 8
def zp_bok (n : Nat) (q : Nat × Nat × Nat × Nat) : Prop := q.1 ≤ 2 ∧ (1 ≤ q.1 → q.2.2.1 < n) ∧ (q.1 = 2 → q.2.1 < 8 ∧ q.2.2.2 < n)
def zp_V (P : zp_T) : Prop := 1 ≤ zp_nb P ∧ zp_nb P ≤ 12 ∧ zp_ni P ≤ 40 ∧ zp_st P 0 = 0 ∧ (∀ b, b < zp_nb P → zp_st P b ≤ zp_st P (b + 1)) ∧ zp_st P (zp_nb P) = zp_ni P ∧ (∀ b, b < zp_nb P → zp_bok (zp_nb P) (P.2.2.2.1 b)) ∧ ∀ i, i < zp_ni P → zp_iok (P.2.2.2.2 i)
/-- the packed word of an instruction -/
def zp_W (q : Nat × Nat × Nat × Nat × Nat) : Nat := if q.1 = 0 then 4 * q.2.1 + 8192 * q.2.2.1 else q.1 + 4 * q.2.1 + 32 * q.2.2.1 + 256 * q.2.2.2.2 + 2048 * q.2.2.2.1
/-- a Program object: the cell t and its six rows behind it -/
def zo_P (M : mm_T) (t : Nat) : Prop := mm_k M t = (7, 0) ∧ (mm_R M t 2 = t + 1 ∧ mm_R M t 3 = t + 2 ∧ mm_R M t 4 = t + 3 ∧ mm_R M t 5 = t + 4 ∧ mm_R M t 6 = t + 5 ∧ mm_R M t 7 = t + 6) ∧ mm_k M (t + 1) = (20, 40) ∧ mm_k M (t + 2) = (20, 13) ∧ mm_k M (t + 3) = (20, 12) ∧ mm_k M (t + 4) = (20, 12) ∧ mm_k M (t + 5) = (20, 12) ∧ mm_k M (t + 6) = (20, 12)
/-- the Program object at t holds P -/
def zo_H (M : mm_T) (t : Nat) (P : zp_T) : Prop := mm_I M t 0 = nI (zp_nb P) ∧ mm_I M t 1 = nI (zp_ni P) ∧ (∀ i, i < zp_ni P → mm_I M (t + 1) i = nI (zp_W (P.2.2.2.2 i))) ∧ (∀ b, b ≤ zp_nb P → mm_I M (t + 2) b = nI (zp_st P b)) ∧ (∀ b, b < zp_nb P → mm_I M (t + 3) b = nI (zp_w P b)) ∧ (∀ b, b < zp_nb P → zp_w P b = 2 → mm_I M (t + 4) b = nI (zp_x P b)) ∧ (∀ b, b < zp_nb P → 1 ≤ zp_w P b → mm_I M (t + 5) b = nI (zp_f P b)) ∧ (∀ b, b < zp_nb P → zp_w P b = 2 → mm_I M (t + 6) b = nI (zp_s P b))
theorem zo_P.keep {M M' : mm_T} {t : Nat} {A : Nat → Prop} (h : zo_P M t) (hf : zf_F M M' A) : zo_P M' t := by
  unfold zo_P
  simp only [zf_k hf, zf_R hf]
  exact h
theorem zo_H.keep {M M' : mm_T} {t : Nat} {P : zp_T} (h : zo_H M t P) (hI : ∀ a, t ≤ a → a ≤ t + 6 → ∀ k, mm_I M' a k = mm_I M a k) : zo_H M' t P := by
  obtain ⟨h1, h2, h3, h4, h5, h6, h7, h8⟩ := h
  refine ⟨?_, ?_, fun i hi => ?_, fun b hb => ?_, fun b hb => ?_, fun b hb hw => ?_, fun b hb hw => ?_, fun b hb hw => ?_⟩
  · rw [hI t (by omega) (by omega)]; exact h1
  · rw [hI t (by omega) (by omega)]; exact h2
  · rw [hI (t + 1) (by omega) (by omega)]; exact h3 i hi
  · rw [hI (t + 2) (by omega) (by omega)]; exact h4 b hb
  · rw [hI (t + 3) (by omega) (by omega)]; exact h5 b hb
  · rw [hI (t + 4) (by omega) (by omega)]; exact h6 b hb hw
  · rw [hI (t + 5) (by omega) (by omega)]; exact h7 b hb hw
  · rw [hI (t + 6) (by omega) (by omega)]; exact h8 b hb hw
/-! the packed word, taken apart -/
theorem zw_ushr {n k : Nat} (hn : n < 2 ^ 31) (hk : k < 31) : io_ushr (nI n) (nI k) = nI (n / 2 ^ k) := pk_ushrN (by omega) (nI k) k (s_u k (by omega))
theorem zw_mask (n k : Nat) : nI n &&& nI (2 ^ k - 1) = nI (n % 2 ^ k) := fa_mask n k
theorem zp_Wlt {q : Nat × Nat × Nat × Nat × Nat} (h : zp_iok q) : zp_W q < 2 ^ 23 := by
  obtain ⟨k, t, l, o, r⟩ := q
  obtain ⟨h1, h2, h3, h4, h5, h6⟩ := h
  simp only at h1 h2 h3 h4 h5 h6
  unfold zp_W
  simp only
  split
  · omega
  · rename_i c
    have := h4 c
    omega
theorem zc_kind {q : Nat × Nat × Nat × Nat × Nat} (h : zp_iok q) (M : mm_T) : ff_O_kind (nI (zp_W q)) M = some (nI q.1) := by
  unfold ff_O_kind
  rw [show (3 : Int32) = nI (2 ^ 2 - 1) from rfl, zw_mask]
  obtain ⟨k, t, l, o, r⟩ := q
  obtain ⟨h1, h2, h3, h4, h5, h6⟩ := h
  simp only at h1 h2 h3 h4 h5 h6
  unfold zp_W
  simp only
  split
  · rename_i c
    rw [c]
    congr 2
    omega
  · congr 2
    omega
theorem zc_target {q : Nat × Nat × Nat × Nat × Nat} (h : zp_iok q) (M : mm_T) : ff_O_target (nI (zp_W q)) M = some (nI q.2.1) := by
  have hl := zp_Wlt h
  unfold ff_O_target
  rw [show (7 : Int32) = nI (2 ^ 3 - 1) from rfl, show (2 : Int32) = nI 2 from rfl, zw_ushr (by omega) (by omega), zw_mask]
  obtain ⟨k, t, l, o, r⟩ := q
  obtain ⟨h1, h2, h3, h4, h5, h6⟩ := h
  simp only at h1 h2 h3 h4 h5 h6
  unfold zp_W
  simp only
  split
  · congr 2
    omega
  · congr 2
    omega
theorem zc_left {q : Nat × Nat × Nat × Nat × Nat} (h : zp_iok q) (hk : q.1 ≠ 0) (M : mm_T) : ff_O_left (nI (zp_W q)) M = some (nI q.2.2.1) := by
  have hl := zp_Wlt h
  unfold ff_O_left
  rw [show (7 : Int32) = nI (2 ^ 3 - 1) from rfl, show (5 : Int32) = nI 5 from rfl, zw_ushr (by omega) (by omega), zw_mask]
  obtain ⟨k, t, l, o, r⟩ := q
  obtain ⟨h1, h2, h3, h4, h5, h6⟩ := h
  simp only at h1 h2 h3 h4 h5 h6 hk
  have := h4 hk
  unfold zp_W
  simp only
  rw [if_neg hk]
  congr 2
  omega
theorem zc_right {q : Nat × Nat × Nat × Nat × Nat} (h : zp_iok q) (hk : q.1 ≠ 0) (M : mm_T) : ff_O_right (nI (zp_W q)) M = some (nI q.2.2.2.2) := by
  have hl := zp_Wlt h
  unfold ff_O_right
  rw [show (7 : Int32) = nI (2 ^ 3 - 1) from rfl, show (8 : Int32) = nI 8 from rfl, zw_ushr (by omega) (by omega), zw_mask]
  obtain ⟨k, t, l, o, r⟩ := q
  obtain ⟨h1, h2, h3, h4, h5, h6⟩ := h
  simp only at h1 h2 h3 h4 h5 h6 hk
  have := h4 hk
  unfold zp_W
  simp only
  rw [if_neg hk]
  congr 2
  omega
theorem zc_oper {q : Nat × Nat × Nat × Nat × Nat} (h : zp_iok q) (hk : q.1 ≠ 0) (M : mm_T) : ff_O_operator (nI (zp_W q)) M = some (nI q.2.2.2.1) := by
  have hl := zp_Wlt h
  unfold ff_O_operator
  rw [show (3 : Int32) = nI (2 ^ 2 - 1) from rfl, show (11 : Int32) = nI 11 from rfl, zw_ushr (by omega) (by omega), zw_mask]
  obtain ⟨k, t, l, o, r⟩ := q
  obtain ⟨h1, h2, h3, h4, h5, h6⟩ := h
  simp only at h1 h2 h3 h4 h5 h6 hk
  have := h4 hk
  unfold zp_W
  simp only
  rw [if_neg hk]
  congr 2
  omega
theorem zc_const {q : Nat × Nat × Nat × Nat × Nat} (h : zp_iok q) (hk : q.1 = 0) (M : mm_T) : ff_O_constant (nI (zp_W q)) M = some (nI q.2.2.1) := by
  have hl := zp_Wlt h
  unfold ff_O_constant
  rw [show (1023 : Int32) = nI (2 ^ 10 - 1) from rfl, show (13 : Int32) = nI 13 from rfl, zw_ushr (by omega) (by omega), zw_mask]
  obtain ⟨k, t, l, o, r⟩ := q
  obtain ⟨h1, h2, h3, h4, h5, h6⟩ := h
  simp only at h1 h2 h3 h4 h5 h6 hk
  unfold zp_W
  simp only
  rw [if_pos hk]
  congr 2
  omega
theorem zc_expr {q : Nat × Nat × Nat × Nat × Nat} (h : zp_iok q) (hk : q.1 ≠ 0) (M : mm_T) : ff_O_expression (nI (zp_W q)) M = some (nI (q.2.2.1 + 8 * q.2.2.2.2 + 64 * q.2.2.2.1)) := by
  have hl := zp_Wlt h
  unfold ff_O_expression
  rw [show (255 : Int32) = nI (2 ^ 8 - 1) from rfl, show (5 : Int32) = nI 5 from rfl, zw_ushr (by omega) (by omega), zw_mask]
  obtain ⟨k, t, l, o, r⟩ := q
  obtain ⟨h1, h2, h3, h4, h5, h6⟩ := h
  simp only at h1 h2 h3 h4 h5 h6 hk
  have := h4 hk
  unfold zp_W
  simp only
  rw [if_neg hk]
  congr 2
  omega
