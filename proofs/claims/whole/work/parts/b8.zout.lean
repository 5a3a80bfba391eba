/-! ===== the written text; a sink of bytes ===== -/
def zW_t (i : Nat) : List Nat := (gs_byt.getD i []).map (fun x => x.toInt.toNat)
theorem zW_tl : ∀ i, i < 31 → (zW_t i).length = gs_len.getD i 0 := by decide +kernel
theorem zW_tc : ∀ i, i < 31 → ∀ j, j < gs_len.getD i 0 → (gs_byt.getD i []).getD j 0 = nI ((zW_t i).getD j 0) ∧ (zW_t i).getD j 0 < 256 := by decide +kernel
def zW_var (v : Nat) : List Nat := [32, 97 + v]
def zW_num (n : Nat) : List Nat := [32] ++ (if 100 ≤ n then [48 + n / 100] else []) ++ (if 10 ≤ n then [48 + n / 10 % 10] else []) ++ [48 + n % 10]
def zW_item (q : Nat × Nat × Nat × Nat × Nat) : List Nat :=
  if q.1 = 0 then zW_t 2 ++ zW_var q.2.1 ++ zW_num q.2.2.1 ++ [59]
  else if q.1 = 1 then zW_t 3 ++ zW_var q.2.1 ++ zW_var q.2.2.1 ++ [59]
  else if q.1 = 2 then zW_t 4 ++ zW_var q.2.1 ++ zW_var q.2.2.1 ++ zW_t (25 + q.2.2.2.1) ++ zW_var q.2.2.2.2 ++ [59]
  else zW_t 5 ++ zW_var q.2.2.1 ++ [59]
def zW_exit (q : Nat × Nat × Nat × Nat) : List Nat :=
  if q.1 = 0 then zW_t 9 ++ [59]
  else if q.1 = 1 then zW_t 10 ++ zW_num q.2.2.1 ++ [59]
  else zW_t 11 ++ zW_var q.2.1 ++ zW_num q.2.2.1 ++ zW_num q.2.2.2 ++ [59]
def zW_items (P : zp_T) (a : Nat) : Nat → List Nat
  | 0 => []
  | n + 1 => zW_items P a n ++ zW_item (P.2.2.2.2 (a + n))
def zW_block (P : zp_T) (b : Nat) : List Nat := zW_items P (zp_st P b) (zp_st P (b + 1) - zp_st P b) ++ zW_exit (P.2.2.2.1 b)
theorem zW_num_le (n : Nat) : (zW_num n).length ≤ 4 := by
  unfold zW_num
  by_cases c1 : 100 ≤ n <;> by_cases c2 : 10 ≤ n <;> simp [c1, c2]
theorem zW_item_le {q : Nat × Nat × Nat × Nat × Nat} (h : zp_iok q) : (zW_item q).length ≤ 17 := by
  have hn := zW_num_le q.2.2.1
  have t2 : (zW_t 2).length = 3 := by decide +kernel
  have t3 : (zW_t 3).length = 4 := by decide +kernel
  have t4 : (zW_t 4).length = 4 := by decide +kernel
  have t5 : (zW_t 5).length = 4 := by decide +kernel
  have v : ∀ v, (zW_var v).length = 2 := fun _ => rfl
  have ho : ∀ o, o ≤ 2 → (zW_t (25 + o)).length ≤ 6 := by decide +kernel
  have := ho _ h.2.2.2.2.1
  unfold zW_item
  split
  · simp only [List.length_append, t2, v, List.length_cons, List.length_nil]; omega
  · split
    · simp only [List.length_append, t3, v, List.length_cons, List.length_nil]; omega
    · split
      · simp only [List.length_append, t4, v, List.length_cons, List.length_nil]; omega
      · simp only [List.length_append, t5, v, List.length_cons, List.length_nil]; omega
theorem zW_exit_le (q : Nat × Nat × Nat × Nat) : (zW_exit q).length ≤ 17 := by
  have hn := zW_num_le q.2.2.1
  have hm := zW_num_le q.2.2.2
  have t9 : (zW_t 9).length = 4 := by decide +kernel
  have t10 : (zW_t 10).length = 4 := by decide +kernel
  have t11 : (zW_t 11).length = 6 := by decide +kernel
  have v : ∀ v, (zW_var v).length = 2 := fun _ => rfl
  unfold zW_exit
  split
  · simp only [List.length_append, t9, List.length_cons, List.length_nil]; omega
  · split
    · simp only [List.length_append, t10, List.length_cons, List.length_nil]; omega
    · simp only [List.length_append, t11, v, List.length_cons, List.length_nil]; omega
theorem zW_items_le {P : zp_T} (hV : zp_V P) (a : Nat) : ∀ n, a + n ≤ zp_ni P → (zW_items P a n).length ≤ 17 * n := by
  intro n
  induction n with
  | zero => intro _; exact Nat.le_refl _
  | succ n ih =>
    intro h
    have h1 := ih (by omega)
    have h2 := zW_item_le (hV.2.2.2.2.2.2.2 (a + n) (by omega))
    show (zW_items P a n ++ zW_item (P.2.2.2.2 (a + n))).length ≤ _
    rw [List.length_append]
    omega
theorem zW_gL {l : List Nat} {b i : Nat} (h : i < l.length) : (l ++ [b]).getD i 0 = l.getD i 0 := by
  simp [List.getD, List.getElem?_append_left h]
theorem zW_gR (l : List Nat) (b : Nat) : (l ++ [b]).getD l.length 0 = b := by
  simp [List.getD]
theorem zi_divG {a b : Nat} (ha : a < 2 ^ 31) (hb : 0 < b) (hb2 : b < 2 ^ 31) : io_divG (nI a) (nI b) = some (nI (a / b)) := by
  unfold io_divG
  rw [if_neg (nI_ne0 hb hb2)]
  unfold nI
  rw [Int32.ofNat_div ha hb2]
theorem zi_remG {a b : Nat} (ha : a < 2 ^ 31) (hb : 0 < b) (hb2 : b < 2 ^ 31) : io_remG (nI a) (nI b) = some (nI (a % b)) := by
  unfold io_remG io_rem
  have h1 : nI a / nI b = nI (a / b) := by
    unfold nI
    exact (Int32.ofNat_div ha hb2).symm
  have h2 : a / b * b ≤ a := Nat.div_mul_le_self a b
  rw [if_neg (nI_ne0 hb hb2), h1, zi_mul, zi_sub h2]
  have h3 := Nat.div_add_mod a b
  have h4 : b * (a / b) = a / b * b := Nat.mul_comm _ _
  congr 2
  omega
/-! a sink -/
def zW_S (W : mm_T → List Nat → Prop) (f : Int32 → mm_T → Option mm_T) : Prop := ∀ M l b, W M l → l.length < 700 → ∃ M', f (nI b) M = some M' ∧ W M' (l ++ [b])
section ZW8
variable {W : mm_T → List Nat → Prop} {f : Int32 → mm_T → Option mm_T}
theorem zW_Svar (h : zW_S W f) {M : mm_T} {l : List Nat} (hW : W M l) {v : Nat} (hl : l.length + 2 ≤ 700) : ∃ M', ((f 32 M).bind fun M1 => (f ((97 : Int32) + nI v) M1).bind fun M2 => some M2) = some M' ∧ W M' (l ++ zW_var v) := by
  obtain ⟨M1, e1, w1⟩ := h M l 32 hW (by omega)
  obtain ⟨M2, e2, w2⟩ := h M1 (l ++ [32]) (97 + v) w1 (by rw [List.length_append]; show l.length + 1 < 700; omega)
  have e1' : f 32 M = some M1 := e1
  rw [e1', Option.bind_some, show (97 : Int32) = nI 97 from rfl, nI_add, e2, Option.bind_some]
  refine ⟨M2, rfl, ?_⟩
  rw [List.append_assoc] at w2
  exact w2
theorem zW_Stext (h : zW_S W f) {M : mm_T} {l : List Nat} (hW : W M l) {i : Nat} (hi : i < 31) (hl : l.length + (zW_t i).length ≤ 700) {F : Nat → Int32 → mm_T → Option mm_T} (hF : ∀ fu q N, F (fu + 1) q N = (ff_JS_length (st_B + i) N).bind fun x1 => if x1 ≤ q then (some N) else ((ff_JS_charAt (st_B + i) q N).bind fun x2 => (f x2 N).bind fun M1 => (some (q + (1 : Int32))).bind fun x3 => F fu x3 M1)) : ∃ M', F fu_L 0 M = some M' ∧ W M' (l ++ zW_t i) := by
  have el := zW_tl i hi
  have len : ∀ N, ff_JS_length (st_B + i) N = some (nI (gs_len.getD i 0)) := by
    intro N
    unfold ff_JS_length
    rw [if_pos ⟨by omega, by unfold gs_N; omega⟩, Nat.add_sub_cancel_left]
    rfl
  have l31 : ∀ i, i < 31 → gs_len.getD i 0 < 200 := by decide +kernel
  have hb := l31 i hi
  suffices goal : zh_H (F fu_L 0 M) (fun M' => W M' (l ++ zW_t i)) from goal
  refine zh_up (F := fun fu q N => F fu q N) (gs_len.getD i 0) (fun j N => W N (l ++ (zW_t i).take j)) ?_ ?_ fu_L 0 M (Nat.zero_le _) (by rw [zs_fuel]; omega) (by rw [List.take_zero, List.append_nil]; exact hW)
  · intro fu j N hj g k
    obtain ⟨c1, c2⟩ := zW_tc i hi j hj
    have ch : ff_JS_charAt (st_B + i) (nI j) N = some (nI ((zW_t i).getD j 0)) := by
      have e := nI_toInt (n := j) (by omega)
      unfold ff_JS_charAt
      rw [e, Nat.add_sub_cancel_left, if_pos ⟨⟨by omega, by unfold gs_N; omega⟩, by omega, by omega⟩, Int.toNat_natCast, c1]
    have lt : (l ++ (zW_t i).take j).length < 700 := by
      rw [List.length_append, List.length_take]
      omega
    obtain ⟨N2, e2, w2⟩ := h N _ ((zW_t i).getD j 0) g lt
    show zh_H (F (fu + 1) (nI j) N) _
    rw [hF, len, Option.bind_some, if_neg (nI_ge hj (by omega)), ch, Option.bind_some, e2, Option.bind_some, Option.bind_some, nI_1]
    refine k N2 ?_
    have ht : (zW_t i).take (j + 1) = (zW_t i).take j ++ [(zW_t i).getD j 0] := by
      rw [List.take_add_one]
      congr 1
      have hjl : j < (zW_t i).length := by omega
      simp [List.getD, List.getElem?_eq_getElem hjl]
    rw [ht, ← List.append_assoc]
    exact w2
  · intro fu N g
    show zh_H (F (fu + 1) (nI (gs_len.getD i 0)) N) _
    rw [hF, len, Option.bind_some, if_pos (nI_le (Nat.le_refl _) (by omega))]
    refine zh_some ?_
    rw [← el, List.take_length] at g
    exact g
theorem zW_Snum (h : zW_S W f) {M : mm_T} {l : List Nat} (hW : W M l) {n : Nat} (hn : n < 1000) (hl : l.length + 4 ≤ 700) {c100 c10 : Prop} [Decidable c100] [Decidable c10] (h100 : c100 ↔ n < 100) (h10 : c10 ↔ n < 10) : ∃ M', ((f (32 : Int32) M).bind fun M1 => jp_J (α := mm_T → Option (mm_T)) (fun (M2 : mm_T) => jp_J (α := mm_T → Option (mm_T)) (fun (M3 : mm_T) => (io_remG (nI n) (10 : Int32)).bind fun x1 => (f ((48 : Int32) + x1) M3).bind fun M4 => some M4) fun j43 => if c10 then (j43 M2) else ((io_divG (nI n) (10 : Int32)).bind fun x2 => (io_remG x2 (10 : Int32)).bind fun x3 => (f ((48 : Int32) + x3) M2).bind fun M5 => j43 M5)) fun j23 => if c100 then (j23 M1) else ((io_divG (nI n) (100 : Int32)).bind fun x4 => (f ((48 : Int32) + x4) M1).bind fun M6 => j23 M6)) = some M' ∧ W M' (l ++ zW_num n) := by
  obtain ⟨M1, e1, w1⟩ := h M l 32 hW (by omega)
  have e1' : f 32 M = some M1 := e1
  rw [e1', Option.bind_some]
  simp only [zq_jp]
  rw [show (10 : Int32) = nI 10 from rfl, show (100 : Int32) = nI 100 from rfl, zi_remG (by omega) (by omega) (by omega), zi_divG (by omega) (by omega) (by omega), zi_divG (by omega) (by omega) (by omega)]
  simp only [Option.bind_some]
  rw [zi_remG (by omega) (by omega) (by omega)]
  simp only [Option.bind_some, show (48 : Int32) = nI 48 from rfl, nI_add]
  have last : ∀ (N : mm_T) (l' : List Nat), W N l' → l'.length < 700 → ∃ M', ((f (nI (48 + n % 10)) N).bind fun M4 => some M4) = some M' ∧ W M' (l' ++ [48 + n % 10]) := by
    intro N l' w hl'
    obtain ⟨N2, e2, w2⟩ := h N l' (48 + n % 10) w hl'
    rw [e2, Option.bind_some]
    exact ⟨N2, rfl, w2⟩
  have mid : ∀ (N : mm_T) (l' : List Nat), W N l' → l'.length + 1 < 700 → ∃ M', (if c10 then ((f (nI (48 + n % 10)) N).bind fun M4 => some M4) else ((f (nI (48 + n / 10 % 10)) N).bind fun M5 => (f (nI (48 + n % 10)) M5).bind fun M4 => some M4)) = some M' ∧ W M' (l' ++ (if 10 ≤ n then [48 + n / 10 % 10] else []) ++ [48 + n % 10]) := by
    intro N l' w hl'
    by_cases c : n < 10
    · rw [if_pos (h10.mpr c), if_neg (by omega), List.append_nil]
      exact last N l' w (by omega)
    · obtain ⟨N2, e2, w2⟩ := h N l' (48 + n / 10 % 10) w (by omega)
      rw [if_neg (fun z => c (h10.mp z)), if_pos (by omega), e2, Option.bind_some]
      exact last N2 _ w2 (by rw [List.length_append]; show l'.length + 1 < 700; omega)
  have l1 : (l ++ [32]).length = l.length + 1 := by rw [List.length_append]; rfl
  unfold zW_num
  by_cases c : n < 100
  · rw [if_pos (h100.mpr c), if_neg (show ¬ 100 ≤ n by omega), List.append_nil, ← List.append_assoc, ← List.append_assoc]
    exact mid M1 _ w1 (by omega)
  · obtain ⟨N2, e2, w2⟩ := h M1 _ (48 + n / 100) w1 (by omega)
    rw [if_neg (fun z => c (h100.mp z)), if_pos (show 100 ≤ n by omega), e2, Option.bind_some, ← List.append_assoc, ← List.append_assoc, ← List.append_assoc]
    exact mid N2 _ w2 (by rw [List.length_append]; show (l ++ [32]).length + 1 + 1 < 700; omega)
end ZW8
