/-! ===== the class's machine: one step ===== -/
def zk_N (M : mm_T) : Prop := mm_k M 38 = (5, 0) ∧ (mm_R M 38 0 = 39 ∧ mm_R M 38 1 = 40) ∧ mm_k M 39 = (20, 8) ∧ mm_k M 40 = (20, 12)
theorem zk_N.keep {M M' : mm_T} {A : Nat → Prop} (h : zk_N M) (hf : zf_F M M' A) : zk_N M' := by
  unfold zk_N
  simp only [zf_k hf, zf_R hf]
  exact h
theorem zk_N.keepL {M M' : mm_T} {A : Nat → Prop} (h : zk_N M) (hf : zf_L M M' A) : zk_N M' := by
  unfold zk_N
  simp only [zl_k hf, zl_R hf, Nat.reduceLeDiff]
  exact h
/-- the cells of the machine -/
def zj_A (a : Nat) : Prop := 38 ≤ a ∧ a ≤ 40
/-- the machine stands at s -/
def zj_H (M : mm_T) (s : zj_T) : Prop := (∀ v, v < 8 → mm_I M 39 v = nI (zj_v s v)) ∧ (∀ b, b < 12 → mm_I M 40 b = nI (zj_e s b)) ∧ (∀ v, v < 8 → bt (mm_I M 38 2) v = zj_w s v) ∧ mm_I M 38 3 = nI (zj_p s) ∧ mm_I M 38 5 = zo_N (zj_s s) ∧ mm_I M 38 6 = zb_B (zj_o s)
theorem zc_left0 {q : Nat × Nat × Nat × Nat × Nat} (h : zp_iok q) (M : mm_T) : ∃ l, l < 8 ∧ ff_O_left (nI (zp_W q)) M = some (nI l) := by
  by_cases hk : q.1 = 0
  · refine ⟨((zp_W q) / 32) % 8, Nat.mod_lt _ (by decide), ?_⟩
    unfold ff_O_left
    congr 1
    refine b_ext fun i hi => ?_
    unfold io_ushr
    rw [b_and, show (5 : Int32) = nI 5 from rfl, b_ushr 5 (by omega)]
    have hW : zp_W q < 2 ^ 31 := by
      unfold zp_W
      rw [if_pos hk]
      have := h.2.1
      have := h.2.2.1
      omega
    have e1 : bt (nI (zp_W q)) (5 + i) = (zp_W q).testBit (5 + i) := by
      unfold bt nI
      show (BitVec.ofNat 32 (zp_W q)).getLsbD (5 + i) = _
      rw [BitVec.getLsbD_ofNat]
      by_cases c : 5 + i < 32
      · simp [c]
      · have : (zp_W q).testBit (5 + i) = false := Nat.testBit_lt_two_pow (Nat.lt_of_lt_of_le hW (Nat.pow_le_pow_right (by omega) (by omega)))
        rw [this]
        simp [c]
    have e2 : bt (nI (zp_W q / 32 % 8)) i = (zp_W q / 32 % 8).testBit i := by
      unfold bt nI
      show (BitVec.ofNat 32 (zp_W q / 32 % 8)).getLsbD i = _
      rw [BitVec.getLsbD_ofNat]
      simp [hi]
    have e3 : bt (7 : Int32) i = decide (i < 3) := by
      have : ∀ i, i < 32 → bt (7 : Int32) i = decide (i < 3) := by decide +kernel
      exact this i hi
    rw [e1, e2, e3, show (8 : Nat) = 2 ^ 3 from rfl, Nat.testBit_mod_two_pow, show (32 : Nat) = 2 ^ 5 from rfl, Nat.testBit_div_two_pow, Bool.and_comm, Nat.add_comm]
  · exact ⟨_, h.2.2.2.1 hk, zc_left h hk M⟩
section ZRC
variable {M : mm_T} {P : zp_T}
theorem zj_e38 (h : zk_N M) : (mm_k M 38).1 = 5 := by rw [h.1]
theorem zj_at (h : zk_N M) {s : zj_T} (hs : zj_H M s) {v : Nat} (hv : v < 8) : ff_D_at_a 39 (nI v) M = some (nI (zj_v s v)) := by
  rw [zd_at h.2.2.1 hv (by omega), hs.1 v hv]
end ZRC
