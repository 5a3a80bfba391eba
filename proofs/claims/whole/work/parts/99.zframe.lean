/-! ===== the answers both sides are held against: a code and a value ===== -/
abbrev zi_A (n : Nat) (a : Int32) : Prop := 0 ≤ a.toInt ∧ a.toInt.toNat < n
def zi_n (a : Int32) : Nat := a.toInt.toNat
theorem zi_An {n : Nat} {a : Int32} (h : zi_A n a) : zi_n a < n ∧ a = nI (zi_n a) := by
  refine ⟨h.2, ?_⟩
  obtain ⟨m, hm, e⟩ := zi_lt0 (x := a) (by rw [zi_int]; have := h.1; omega)
  unfold zi_n
  rw [e, nI_toInt hm, Int.toNat_natCast]
theorem zi_Ai {n : Nat} {b : Nat} (hb : b < n) (hn : n ≤ 2 ^ 31) : zi_A n (nI b) ∧ zi_n (nI b) = b := by
  unfold zi_A zi_n
  rw [nI_toInt (by omega), Int.toNat_natCast]
  exact ⟨⟨by omega, hb⟩, rfl⟩
theorem zi_neg {a : Int32} : a < 0 ↔ a.toInt < 0 := by rw [zi_int]
theorem zi_ltn {a : Int32} {n : Nat} (hn : n < 2 ^ 31) (h0 : ¬ a < 0) : a < nI n ↔ a.toInt.toNat < n := by
  rw [zi_neg] at h0
  rw [Int32.lt_iff_toInt_lt, nI_toInt hn]
  omega
theorem zi_len {a : Int32} {n : Nat} (hn : n < 2 ^ 31) (h0 : ¬ a < 0) : a ≤ nI n ↔ a.toInt.toNat ≤ n := by
  rw [zi_neg] at h0
  rw [Int32.le_iff_toInt_le, nI_toInt hn]
  omega
theorem zm_over (M : mm_T) (a k : Nat) (v w : Int32) : mm_sI (mm_sI M a k v) a k w = mm_sI M a k w := by
  obtain ⟨n, c, u, K, I, J, R⟩ := M
  simp only [mm_sI, mm_n, mm_c, mm_u, mm_K, mm_I, mm_J, mm_R, Prod.mk.injEq, true_and, and_true]
  funext x y
  simp only [mm_u2]
  split <;> rfl
/-! the class -/
def zr_c (Es : List String) (p : Nat × Int32) : Int32 ⊕ String := if p.1 = 0 then .inl p.2 else .inr (Es.getD (p.1 - 1) "")
def zc_O (X : Option ((Int32 ⊕ String) × mm_T)) (M : mm_T) (P : zp_T) (r : Int32 ⊕ String) : Prop := ∃ M', X = some (r, M') ∧ zf_X M M' zc_A 1 6 ∧ zc_Q M' P
def zc_I (X : Option (Int32 × mm_T)) (M : mm_T) (P : zp_T) (w : Int32) : Prop := ∃ M', X = some (w, M') ∧ zf_F M M' zc_A ∧ zc_Q M' P
theorem zc_rq {Y : Option (Option String)} {M : mm_T} {P : zp_T} {X : Option ((Int32 ⊕ String) × mm_T)} {c : Prop} [Decidable c] {Es : List String} {E : String} {k : Nat} {f : Nat × Int32} (h : zc_Q M P) (hY : Y = some (if c then none else some E)) (hE : zr_c Es (k, 0) = .inr E) (hX : c → zc_O X M P (zr_c Es f)) : zc_O (rq_X Y M X) M P (zr_c Es (if c then f else (k, 0))) := by
  unfold rq_X
  rw [hY]
  by_cases q : c
  · rw [if_pos q, if_pos q]
    exact hX q
  · rw [if_neg q, if_neg q, hE]
    refine ⟨mm_ex M, rfl, zu_ex M zc_A, ?_⟩
    have : zf_L M (mm_ex M) (fun _ => False) := ⟨fun _ _ => ⟨rfl, fun _ => rfl⟩, fun _ _ _ _ => ⟨rfl, rfl⟩⟩
    exact h.keepL this (fun a z => z.elim)
theorem zc_thr {M : mm_T} {P : zp_T} {E : String} {r : Int32 ⊕ String} (h : zc_Q M P) (hr : r = .inr E) : zc_O (some (.inr E, mm_ex M)) M P r := by
  subst hr
  refine ⟨mm_ex M, rfl, zu_ex M zc_A, ?_⟩
  have : zf_L M (mm_ex M) (fun _ => False) := ⟨fun _ _ => ⟨rfl, fun _ => rfl⟩, fun _ _ _ _ => ⟨rfl, rfl⟩⟩
  exact h.keepL this (fun a z => z.elim)
theorem zc_ret {M M' : mm_T} {P : zp_T} {Es : List String} {w : Int32} (f : zf_F M M' zc_A) (h : zc_Q M' P) : zc_O (some (.inl w, M')) M P (zr_c Es (0, w)) := ⟨M', rfl, zu_wk (zu_F f) (Nat.zero_le _) (Nat.zero_le _) (fun a q => q), h⟩
theorem zc_OI {M M1 : mm_T} {P : zp_T} {X : Option ((Int32 ⊕ String) × mm_T)} {r : Int32 ⊕ String} (f : zf_F M M1 zc_A) (h : zc_O X M1 P r) : zc_O X M P r := by
  obtain ⟨M', e, g, q⟩ := h
  exact ⟨M', e, zu_wk (zu_tr (zu_F f) g) (by omega) (by omega) (fun a q => q), q⟩
section ZC9
variable {M : mm_T} {P : zp_T}
theorem zc_reqB (h : zc_Q M P) (a : Int32) : ff_D_requireBlock 1 a M = some (if zi_A (zp_nb P) a then none else some "java/lang/IndexOutOfBoundsException") := by
  have e1 : (mm_k M 1).1 = 10 := by rw [h.1.1]
  have hV := h.2.1.2.2
  have hnb := hV.2.1
  unfold ff_D_requireBlock zi_A
  rw [zq_gd e1, zq_jp]
  by_cases c : a < 0
  · rw [if_pos c, if_neg (fun q => by have := zi_neg.mp c; omega)]
  · rw [if_neg c, zg_R e1, Option.bind_some, h.1.2.1, zr_blocks h.2.1.1 h.2.1.2.1, Option.bind_some]
    have c0 : 0 ≤ a.toInt := by rw [zi_neg] at c; omega
    by_cases d : a < nI (zp_nb P)
    · rw [if_pos d, if_pos ⟨c0, (zi_ltn (by omega) c).mp d⟩]
    · rw [if_neg d, if_neg (fun q => d ((zi_ltn (by omega) c).mpr q.2))]
theorem zc_reqI (h : zc_Q M P) (a : Int32) : ff_D_requireInstruction 1 a M = some (if zi_A (zp_ni P) a then none else some "java/lang/IndexOutOfBoundsException") := by
  have e1 : (mm_k M 1).1 = 10 := by rw [h.1.1]
  have hV := h.2.1.2.2
  have hni := hV.2.2.1
  unfold ff_D_requireInstruction zi_A
  rw [zq_gd e1, zq_jp]
  by_cases c : a < 0
  · rw [if_pos c, if_neg (fun q => by have := zi_neg.mp c; omega)]
  · rw [if_neg c, zg_R e1, Option.bind_some, h.1.2.1, zr_instr h.2.1.1 h.2.1.2.1, Option.bind_some]
    have c0 : 0 ≤ a.toInt := by rw [zi_neg] at c; omega
    by_cases d : a < nI (zp_ni P)
    · rw [if_pos d, if_pos ⟨c0, (zi_ltn (by omega) c).mp d⟩]
    · rw [if_neg d, if_neg (fun q => d ((zi_ltn (by omega) c).mpr q.2))]
theorem zc_reqV (a : Int32) (M : mm_T) : ff_D_requireVariable a M = some (if zi_A 8 a then none else some "java/lang/IllegalArgumentException") := by
  unfold ff_D_requireVariable zi_A
  rw [zq_jp]
  by_cases c : a < 0
  · rw [if_pos c, if_neg (fun q => by have := zi_neg.mp c; omega)]
  · rw [if_neg c]
    have c0 : 0 ≤ a.toInt := by rw [zi_neg] at c; omega
    by_cases d : a < (8 : Int32)
    · rw [if_pos d, if_pos ⟨c0, (zi_ltn (n := 8) (by omega) c).mp d⟩]
    · rw [if_neg d, if_neg (fun q => d ((zi_ltn (n := 8) (by omega) c).mpr q.2))]
end ZC9
/-! the reference -/
def zt_O (X : Option (Int32 × mm_T)) (M : mm_T) (p : Nat × Int32) : Prop := ∃ v M', X = some (v, M') ∧ zf_X (mm_sI M 52 4 (nI p.1)) M' zt_A 20 240 ∧ (p.1 = 0 → v = p.2)
theorem zt_ret {M N : mm_T} {w : Int32} (f : zf_X (mm_sI M 52 4 0) N zt_A 20 240) : zt_O (some (w, N)) M (0, w) := ⟨w, N, rfl, f, fun _ => rfl⟩
theorem zt_retF {M N : mm_T} {w : Int32} (f : zf_F (mm_sI M 52 4 0) N zt_A) : zt_O (some (w, N)) M (0, w) := zt_ret (zu_F0 f)
theorem zt_thr {M N : mm_T} {v w : Int32} {k : Nat} (hk : k ≠ 0) (f : zf_F (mm_sI M 52 4 (nI k)) N zt_A) : zt_O (some (v, N)) M (k, w) := ⟨v, N, rfl, zu_F0 f, fun q => absurd q hk⟩
theorem zt_S.thrown {M : mm_T} {o : Nat} {P : zp_T} (h : zt_S M o P) (k : Int32) : zt_S (mm_sI M 52 4 k) o P := by
  have f : zf_F M (mm_sI M 52 4 k) (fun x => x = 52) := zf_I (A := fun x => x = 52) rfl 4 k
  refine h.keep f ?_ (fun j => zf_i f (by omega) j)
  rw [zm_II, if_neg (by omega)]
section ZT9
variable {M : mm_T} {o : Nat} {P : zp_T}
theorem zt_inA {a : Int32} {n : Nat} (hn2 : n < 2 ^ 31) (M : mm_T) : ff_M_in a 0 (nI n - 1) M = some (zb_B (decide (zi_A n a))) := by
  unfold ff_M_in zi_A
  by_cases c : a < 0
  · have c1 := zi_neg.mp c
    rw [if_pos c, decide_eq_false (by omega)]
    rfl
  · have c1 : 0 ≤ a.toInt := by rw [zi_neg] at c; omega
    rw [if_neg c]
    have e : (nI n - 1).toInt = (n : Int) - 1 := by
      by_cases z : n = 0
      · subst z; rfl
      · rw [show (1 : Int32) = nI 1 from rfl, zi_sub (by omega), nI_toInt (by omega)]
        omega
    by_cases d : nI n - 1 < a
    · rw [if_pos d]
      rw [Int32.lt_iff_toInt_lt, e] at d
      rw [decide_eq_false (by omega)]
      rfl
    · rw [if_neg d]
      rw [Int32.lt_iff_toInt_lt, e] at d
      rw [decide_eq_true (by omega)]
      rfl
theorem zt_isBlock (h : zt_S M o P) (a : Int32) : ff_M_isBlock 52 a M = some (zb_B (decide (zi_A (zp_nb P) a)), mm_sI M 52 4 (if zi_A (zp_nb P) a then 0 else 1)) := by
  have e52 : (mm_k M 52).1 = 11 := by rw [h.1.1]
  have h1 := h.thrown 0
  have e52' : (mm_k (mm_sI M 52 4 0) 52).1 = 11 := by rw [h1.1.1]
  have hnb := h.2.2.2.2.2.1
  unfold ff_M_isBlock
  rw [zq_gd e52, zp_I e52, Option.bind_some, zt_nb h1, Option.bind_some, zt_inA (by omega), Option.bind_some]
  by_cases c : zi_A (zp_nb P) a
  · rw [if_pos c, decide_eq_true c, if_neg (by decide)]
    rfl
  · rw [if_neg c, decide_eq_false c, if_pos (by decide), zp_I e52', Option.bind_some, zm_over]
    rfl
theorem zt_isItem (h : zt_S M o P) (a : Int32) : ff_M_isItem 52 a M = some (zb_B (decide (zi_A (zp_ni P) a)), mm_sI M 52 4 (if zi_A (zp_ni P) a then 0 else 1)) := by
  have e52 : (mm_k M 52).1 = 11 := by rw [h.1.1]
  have h1 := h.thrown 0
  have e52' : (mm_k (mm_sI M 52 4 0) 52).1 = 11 := by rw [h1.1.1]
  have hni := h.2.2.2.2.2.2.1
  unfold ff_M_isItem
  rw [zq_gd e52, zp_I e52, Option.bind_some, zt_ni h1, Option.bind_some, zt_inA (by omega), Option.bind_some]
  by_cases c : zi_A (zp_ni P) a
  · rw [if_pos c, decide_eq_true c, if_neg (by decide)]
    rfl
  · rw [if_neg c, decide_eq_false c, if_pos (by decide), zp_I e52', Option.bind_some, zm_over]
    rfl
theorem zt_isVar (h : zt_S M o P) (a k : Int32) : ff_M_isVariable 52 a k M = some (zb_B (decide (zi_A 8 a)), if zi_A 8 a then M else mm_sI M 52 4 k) := by
  have e52 : (mm_k M 52).1 = 11 := by rw [h.1.1]
  unfold ff_M_isVariable
  rw [zq_gd e52, show (7 : Int32) = nI 8 - 1 by decide, zt_inA (by omega), Option.bind_some]
  by_cases c : zi_A 8 a
  · rw [if_pos c, decide_eq_true c, if_neg (by decide)]
    rfl
  · rw [if_neg c, decide_eq_false c, if_pos (by decide), zp_I e52, Option.bind_some]
    rfl
/-- what asks for a block first -/
theorem zt_opB (h : zt_S M o P) {a : Int32} {K : mm_T → Option (Int32 × mm_T)} {f : Nat × Int32} (hk : zi_A (zp_nb P) a → zt_S (mm_sI M 52 4 0) o P → zt_O (K (mm_sI M 52 4 0)) M f) : zt_O (bd_2 (ff_M_isBlock 52 a M) fun x M1 => if x = 0 then some (0, M1) else K M1) M (if zi_A (zp_nb P) a then f else (1, 0)) := by
  unfold bd_2
  rw [zt_isBlock h, Option.bind_some]
  by_cases c : zi_A (zp_nb P) a
  · rw [if_pos c, if_pos c, decide_eq_true c]
    show zt_O (if (1 : Int32) = 0 then _ else _) M f
    rw [if_neg (by decide)]
    exact hk c (h.thrown 0)
  · rw [if_neg c, if_neg c, decide_eq_false c]
    exact zt_thr (k := 1) (by omega) (zf_rfl _ _)
theorem zt_opI (h : zt_S M o P) {a : Int32} {K : mm_T → Option (Int32 × mm_T)} {f : Nat × Int32} (hk : zi_A (zp_ni P) a → zt_S (mm_sI M 52 4 0) o P → zt_O (K (mm_sI M 52 4 0)) M f) : zt_O (bd_2 (ff_M_isItem 52 a M) fun x M1 => if x = 0 then some (0, M1) else K M1) M (if zi_A (zp_ni P) a then f else (1, 0)) := by
  unfold bd_2
  rw [zt_isItem h, Option.bind_some]
  by_cases c : zi_A (zp_ni P) a
  · rw [if_pos c, if_pos c, decide_eq_true c]
    show zt_O (if (1 : Int32) = 0 then _ else _) M f
    rw [if_neg (by decide)]
    exact hk c (h.thrown 0)
  · rw [if_neg c, if_neg c, decide_eq_false c]
    exact zt_thr (k := 1) (by omega) (zf_rfl _ _)
/-- the same, behind the first -/
theorem zt_opB2 (h : zt_S M o P) {a : Int32} {K : mm_T → Option (Int32 × mm_T)} {f : Nat × Int32} (hk : zi_A (zp_nb P) a → zt_O (K (mm_sI M 52 4 0)) M f) : zt_O (bd_2 (ff_M_isBlock 52 a (mm_sI M 52 4 0)) fun x M1 => if x = 0 then some (0, M1) else K M1) M (if zi_A (zp_nb P) a then f else (1, 0)) := by
  unfold bd_2
  rw [zt_isBlock (h.thrown 0), Option.bind_some, zm_over]
  by_cases c : zi_A (zp_nb P) a
  · rw [if_pos c, if_pos c, decide_eq_true c]
    show zt_O (if (1 : Int32) = 0 then _ else _) M f
    rw [if_neg (by decide)]
    exact hk c
  · rw [if_neg c, if_neg c, decide_eq_false c]
    exact zt_thr (k := 1) (by omega) (zf_rfl _ _)
theorem zt_opV2 (h : zt_S M o P) {a : Int32} {k : Nat} (hk0 : k ≠ 0) {K : mm_T → Option (Int32 × mm_T)} {f : Nat × Int32} (hk : zi_A 8 a → zt_O (K (mm_sI M 52 4 0)) M f) : zt_O (bd_2 (ff_M_isVariable 52 a (nI k) (mm_sI M 52 4 0)) fun x M1 => if x = 0 then some (0, M1) else K M1) M (if zi_A 8 a then f else (k, 0)) := by
  unfold bd_2
  rw [zt_isVar (h.thrown 0), Option.bind_some, zm_over]
  by_cases c : zi_A 8 a
  · rw [if_pos c, if_pos c, decide_eq_true c]
    show zt_O (if (1 : Int32) = 0 then _ else _) M f
    rw [if_neg (by decide)]
    exact hk c
  · rw [if_neg c, if_neg c, decide_eq_false c]
    exact zt_thr hk0 (zf_rfl _ _)
end ZT9
