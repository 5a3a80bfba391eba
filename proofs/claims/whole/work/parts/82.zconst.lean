/-! ===== constants: values -2 (undecided), -1 (none), 0 to 999 ===== -/
def zc_W (x : Int32) : Prop := x = -2 ∨ x = -1 ∨ ∃ c, c < 1000 ∧ x = nI c
def zc_ge (x y : Int32) : Prop := x = -2 ∨ x = y ∨ y = -1
def zc_meet (x y : Int32) : Int32 := if y = -2 then x else if y = x then x else if x = -1 then x else if x = -2 then y else -1
def zc_op (o a b : Nat) : Nat := if o = 0 then (a + b) % 1000 else if o = 1 then (a + 1000 - b) % 1000 else a * b % 1000
def zc_cal (o : Nat) (x y : Int32) : Int32 := if 0 ≤ x ∧ 0 ≤ y then nI (zc_op o x.toNatClampNeg y.toNatClampNeg) else if x = -1 ∨ y = -1 then -1 else -2
theorem zc_ge_rfl (x : Int32) : zc_ge x x := Or.inr (Or.inl rfl)
theorem zc_21 : (-2 : Int32) ≠ -1 := by decide
theorem zc_ge_tr {x y z : Int32} (h : zc_ge x y) (h2 : zc_ge y z) : zc_ge x z := by
  have := zc_21
  unfold zc_ge at *
  rcases h with rfl | rfl | rfl
  · exact Or.inl rfl
  · exact h2
  · rcases h2 with h2 | rfl | rfl
    · exact absurd h2.symm this
    · exact Or.inr (Or.inr rfl)
    · exact Or.inr (Or.inr rfl)
theorem zc_ge_an {x y : Int32} (h : zc_ge x y) (h2 : zc_ge y x) : x = y := by
  have := zc_21
  unfold zc_ge at *
  rcases h with rfl | rfl | rfl
  · rcases h2 with h2 | h2 | h2
    · exact h2.symm
    · exact h2.symm
    · exact absurd h2 this
  · rfl
  · rcases h2 with h2 | h2 | h2
    · exact absurd h2.symm this
    · exact h2.symm
    · exact h2
theorem zc_meet_l (x y : Int32) : zc_ge x (zc_meet x y) := by
  unfold zc_meet
  split
  · exact zc_ge_rfl x
  · split
    · exact zc_ge_rfl x
    · split
      · exact zc_ge_rfl x
      · split
        · rename_i h; exact Or.inl h
        · exact Or.inr (Or.inr rfl)
theorem zc_meet_r (x y : Int32) : zc_ge y (zc_meet x y) := by
  unfold zc_meet
  split
  · rename_i h; exact Or.inl h
  · split
    · rename_i h; exact Or.inr (Or.inl h)
    · split
      · rename_i h; exact Or.inr (Or.inr h)
      · split
        · exact zc_ge_rfl y
        · exact Or.inr (Or.inr rfl)
theorem zc_meet_g {x y g : Int32} (h : zc_ge x g) (h2 : zc_ge y g) : zc_ge (zc_meet x y) g := by
  unfold zc_meet
  split
  · exact h
  · split
    · exact h
    · split
      · exact h
      · split
        · exact h2
        · rename_i c1 c2 c3 c4
          rcases h with h | h | h
          · exact absurd h c4
          · rcases h2 with h2 | h2 | h2
            · exact absurd h2 c1
            · exact absurd (h2.trans h.symm) c2
            · exact Or.inr (Or.inr h2)
          · exact Or.inr (Or.inr h)
theorem zc_meet_W {x y : Int32} (h : zc_W x) (h2 : zc_W y) : zc_W (zc_meet x y) := by
  unfold zc_meet
  split
  · exact h
  · split
    · exact h
    · split
      · exact h
      · split
        · exact h2
        · exact Or.inr (Or.inl rfl)
theorem zc_n1 : ¬ (0 : Int32) ≤ -1 := by decide
theorem zc_n2 : ¬ (0 : Int32) ≤ -2 := by decide
theorem zc_cal_m {o : Nat} {x y x' y' : Int32} (h : zc_ge x x') (h2 : zc_ge y y') : zc_ge (zc_cal o x y) (zc_cal o x' y') := by
  have h21 := zc_21
  have b1 : ∀ z, zc_cal o (-1) z = -1 := fun z => by unfold zc_cal; rw [if_neg (fun q => zc_n1 q.1), if_pos (Or.inl rfl)]
  have b2 : ∀ z, zc_cal o z (-1) = -1 := fun z => by unfold zc_cal; rw [if_neg (fun q => zc_n1 q.2), if_pos (Or.inr rfl)]
  rcases h with rfl | rfl | rfl
  · by_cases c : y = -1
    · subst c
      have : y' = -1 := by
        rcases h2 with q | q | q
        · exact absurd q.symm h21
        · exact q.symm
        · exact q
      rw [this, b2, b2]
      exact zc_ge_rfl _
    · left
      unfold zc_cal
      rw [if_neg (fun q => zc_n2 q.1), if_neg (fun q => q.elim (fun q => h21 q) (fun q => c q))]
  · rcases h2 with rfl | rfl | rfl
    · by_cases c : x = -1
      · rw [c, b1, b1]; exact zc_ge_rfl _
      · left
        unfold zc_cal
        rw [if_neg (fun q => zc_n2 q.2), if_neg (fun q => q.elim (fun q => c q) (fun q => h21 q))]
    · exact zc_ge_rfl _
    · rw [b2]; exact Or.inr (Or.inr rfl)
  · rw [b1]; exact Or.inr (Or.inr rfl)
theorem zc_op_lt (o a b : Nat) : zc_op o a b < 1000 := by
  unfold zc_op
  split
  · exact Nat.mod_lt _ (by omega)
  · split
    · exact Nat.mod_lt _ (by omega)
    · exact Nat.mod_lt _ (by omega)
theorem zc_cal_W (o : Nat) (x y : Int32) : zc_W (zc_cal o x y) := by
  unfold zc_cal
  split
  · exact Or.inr (Or.inr ⟨_, zc_op_lt _ _ _, rfl⟩)
  · split
    · exact Or.inr (Or.inl rfl)
    · exact Or.inl rfl
/-! the class's own arithmetic -/
theorem zc_mod {a : Nat} (ha : a < 2 ^ 31) (M : mm_T) : ff_JM_floorMod (nI a) 1000 M = some (nI (a % 1000)) := by
  unfold ff_JM_floorMod io_remG io_rem
  have e : nI a - nI a / nI 1000 * nI 1000 = nI (a % 1000) := by
    have h1 : nI a / nI 1000 = nI (a / 1000) := by
      unfold nI
      exact (Int32.ofNat_div ha (by omega)).symm
    rw [h1, zi_mul, zi_sub (by omega)]
    congr 1
    omega
  rw [if_neg (by decide), Option.bind_some]
  rw [show (1000 : Int32) = nI 1000 from rfl, e]
  have h2 : (0 : Int32) ≤ nI a ^^^ nI 1000 := by
    rw [fb_xorI]
    exact nI_pos' (Nat.xor_lt_two_pow ha (by omega))
  rw [if_pos h2]
theorem zc_modneg : ∀ k, k < 1000 → ff_JM_floorMod (0 - nI k) 1000 (0, 0, 0, fun _ => (0, 0), fun _ _ => 0, fun _ _ => 0, fun _ _ => 0) = some (nI ((1000 - k) % 1000)) := by decide +kernel
theorem zc_result {o a b : Nat} (ho : o ≤ 2) (ha : a < 1000) (hb : b < 1000) (M : mm_T) : ff_O_result (nI o) (nI a) (nI b) M = some (nI (zc_op o a b)) := by
  have indep : ∀ x y, ff_JM_floorMod x y M = ff_JM_floorMod x y (0, 0, 0, fun _ => (0, 0), fun _ _ => 0, fun _ _ => 0, fun _ _ => 0) := fun _ _ => rfl
  unfold ff_O_result zc_op
  by_cases c : o = 0
  · rw [c, if_pos nI_0, if_pos rfl, nI_add, zc_mod (by omega), Option.bind_some]
  · rw [if_neg (nI_ne0 (by omega) (by omega)), if_neg c]
    simp only [zq_jp]
    by_cases c1 : o = 1
    · rw [c1, if_pos (show nI 1 = (1 : Int32) from rfl), if_pos rfl]
      by_cases c2 : b ≤ a
      · rw [zi_sub c2, zc_mod (by omega), Option.bind_some]
        congr 2
        omega
      · have e : nI a - nI b = 0 - nI (b - a) := by
          have h1 : nI b = nI a + nI (b - a) := by rw [nI_add]; congr 1; omega
          rw [h1, ← Int32.sub_sub, Int32.sub_self]
        rw [e, indep, zc_modneg _ (by omega), Option.bind_some]
        congr 2
        omega
    · have hab : a * b < 2 ^ 31 := by
        have := Nat.mul_le_mul (show a ≤ 999 by omega) (show b ≤ 999 by omega)
        omega
      rw [if_neg (show ¬ nI o = (1 : Int32) from fun h => c1 ((nI_eq (b := 1) (by omega) (by omega)).mp h)), if_neg c1, zi_mul, zc_mod hab, Option.bind_some]
/-! solutions -/
def zc_res (P : zp_T) (F : Nat → Nat → Int32) (i : Nat) : Int32 := if zp_k P i = 0 then nI (zp_l P i) else if zp_k P i = 1 then F i (zp_l P i) else zc_cal (zp_o P i) (F i (zp_l P i)) (F i (zp_r P i))
def zc_out (P : zp_T) (F : Nat → Nat → Int32) (p v : Nat) : Int32 := if zp_df P p = some v then zc_res P F p else F p v
def zc_pre (P : zp_T) (F : Nat → Nat → Int32) : Prop := (∀ v, v < 8 → zc_ge 0 (F (zp_fp P 0) v)) ∧ ∀ p q, zp_OP P p → zp_sc P p q → ∀ v, v < 8 → zc_ge (zc_out P F p v) (F q v)
/-- the greatest solution; undecided where no run comes -/
def zc_top (P : zp_T) (F : Nat → Nat → Int32) : Prop := zc_pre P F ∧ (∀ G, zc_pre P G → ∀ p, zp_OP P p → ∀ v, v < 8 → zc_ge (F p v) (G p v)) ∧ (∀ p, p < 52 → ¬ zp_OP P p → ∀ v, v < 8 → F p v = -2) ∧ ∀ p, p < 52 → ∀ v, v < 8 → zc_W (F p v)
theorem zc_top_one {P : zp_T} {F G : Nat → Nat → Int32} (hF : zc_top P F) (hG : zc_top P G) {p v : Nat} (hp : p < 52) (hv : v < 8) : F p v = G p v := by
  by_cases h : zp_OP P p
  · exact zc_ge_an (hF.2.1 G hG.1 p h v hv) (hG.2.1 F hF.1 p h v hv)
  · rw [hF.2.2.1 p hp h v hv, hG.2.2.1 p hp h v hv]
theorem zc_res_m {P : zp_T} (hV : zp_V P) {F G : Nat → Nat → Int32} {i : Nat} (hi : i < zp_ni P) (h : ∀ v, v < 8 → zc_ge (F i v) (G i v)) : zc_ge (zc_res P F i) (zc_res P G i) := by
  have hq := hV.2.2.2.2.2.2.2 i hi
  unfold zc_res
  split
  · exact zc_ge_rfl _
  · rename_i c
    have hl : zp_l P i < 8 := hq.2.2.2.1 c
    split
    · exact h _ hl
    · exact zc_cal_m (h _ hl) (h _ hq.2.2.2.2.2)
theorem zc_out_m {P : zp_T} (hV : zp_V P) {F G : Nat → Nat → Int32} {p v : Nat} (hp : zp_pt P p) (hv : v < 8) (h : ∀ v, v < 8 → zc_ge (F p v) (G p v)) : zc_ge (zc_out P F p v) (zc_out P G p v) := by
  unfold zc_out
  split
  · rename_i c
    have hi : p < zp_ni P := by
      rcases hp with q | q
      · exact q
      · unfold zp_df at c; rw [if_neg (by omega)] at c; cases c
    exact zc_res_m hV hi h
  · exact h v hv
theorem zc_res_W {P : zp_T} (hV : zp_V P) {F : Nat → Nat → Int32} {i : Nat} (hi : i < zp_ni P) (h : ∀ v, v < 8 → zc_W (F i v)) : zc_W (zc_res P F i) := by
  have hq := hV.2.2.2.2.2.2.2 i hi
  unfold zc_res
  split
  · exact Or.inr (Or.inr ⟨_, hq.2.2.1, rfl⟩)
  · rename_i c
    split
    · exact h _ (hq.2.2.2.1 c)
    · exact zc_cal_W _ _ _
