/-! ===== the loop of the law ===== -/
def lw_d (n : Nat) (xs : Nat → Int32) (x4 : Int32) (i : Int32) (jj : mm_T → Option (Int32 × mm_T)) (N : mm_T) : Option (Int32 × mm_T) :=
  if x4 = (0 : Int32) then (lw_c0 n xs 1 52 63 i jj N) else (if x4 = (1 : Int32) then (lw_c1 n xs 1 52 63 i jj N) else (if x4 = (2 : Int32) then (lw_c2 n xs 1 52 63 i jj N) else (if x4 = (3 : Int32) then (lw_c3 n xs 1 52 63 i jj N) else (if x4 = (4 : Int32) then (lw_c4 n xs 1 52 63 i jj N) else (if x4 = (5 : Int32) then (lw_c5 n xs 1 52 63 i jj N) else (if x4 = (6 : Int32) then (lw_c6 n xs 1 52 63 i jj N) else (if x4 = (7 : Int32) then (lw_c7 n xs 1 52 63 i jj N) else (if x4 = (8 : Int32) then (lw_c8 n xs 1 52 63 i jj N) else (if x4 = (9 : Int32) then (lw_c9 n xs 1 52 63 i jj N) else (if x4 = (10 : Int32) then (lw_c10 n xs 1 52 63 i jj N) else (if x4 = (11 : Int32) then (lw_c11 n xs 1 52 63 i jj N) else (if x4 = (12 : Int32) then (lw_c12 n xs 1 52 63 i jj N) else (if x4 = (13 : Int32) then (lw_c13 n xs 1 52 63 i jj N) else (if x4 = (14 : Int32) then (lw_c14 n xs 1 52 63 i jj N) else (if x4 = (15 : Int32) then (lw_c15 n xs 1 52 63 i jj N) else (if x4 = (16 : Int32) then (lw_c16 n xs 1 52 63 i jj N) else (if x4 = (17 : Int32) then (lw_c17 n xs 1 52 63 i jj N) else (if x4 = (18 : Int32) then (lw_c18 n xs 1 52 63 i jj N) else (if x4 = (19 : Int32) then (lw_c19 n xs 1 52 63 i jj N) else (if x4 = (20 : Int32) then (lw_c20 n xs 1 52 63 i jj N) else (if x4 = (21 : Int32) then (lw_c21 n xs 1 52 63 i jj N) else (if x4 = (22 : Int32) then (lw_c22 n xs 1 52 63 i jj N) else (if x4 = (23 : Int32) then (lw_c23 n xs 1 52 63 i jj N) else (if x4 = (24 : Int32) then (lw_c24 n xs 1 52 63 i jj N) else (if x4 = (25 : Int32) then (lw_c25 n xs 1 52 63 i jj N) else (if x4 = (26 : Int32) then (lw_c26 n xs 1 52 63 i jj N) else (if x4 = (27 : Int32) then (lw_c27 n xs 1 52 63 i jj N) else (if x4 = (28 : Int32) then (lw_c28 n xs 1 52 63 i jj N) else (if x4 = (29 : Int32) then (lw_c29 n xs 1 52 63 i jj N) else (if x4 = (30 : Int32) then (lw_c30 n xs 1 52 63 i jj N) else (if x4 = (31 : Int32) then (lw_c31 n xs 1 52 63 i jj N) else (if x4 = (32 : Int32) then (lw_c32 n xs 1 52 63 i jj N) else (if x4 = (33 : Int32) then (lw_c33 n xs 1 52 63 i jj N) else (if x4 = (34 : Int32) then (lw_c34 n xs 1 52 63 i jj N) else (if x4 = (35 : Int32) then (lw_c35 n xs 1 52 63 i jj N) else (if x4 = (36 : Int32) then (lw_c36 n xs 1 52 63 i jj N) else (if x4 = (37 : Int32) then (lw_c37 n xs 1 52 63 i jj N) else (if x4 = (38 : Int32) then (lw_c38 n xs 1 52 63 i jj N) else (if x4 = (39 : Int32) then (lw_c39 n xs 1 52 63 i jj N) else (if x4 = (40 : Int32) then (lw_c40 n xs 1 52 63 i jj N) else (if x4 = (41 : Int32) then (lw_c41 n xs 1 52 63 i jj N) else (if x4 = (42 : Int32) then (lw_c42 n xs 1 52 63 i jj N) else (if x4 = (43 : Int32) then (lw_c43 n xs 1 52 63 i jj N) else (if x4 = (44 : Int32) then (lw_c44 n xs 1 52 63 i jj N) else (if x4 = (45 : Int32) then (lw_c45 n xs 1 52 63 i jj N) else (if x4 = (46 : Int32) then (lw_c46 n xs 1 52 63 i jj N) else (if x4 = (47 : Int32) then (lw_c47 n xs 1 52 63 i jj N) else (if x4 = (48 : Int32) then (lw_c48 n xs 1 52 63 i jj N) else (if x4 = (49 : Int32) then (lw_c49 n xs 1 52 63 i jj N) else (if x4 = (50 : Int32) then (lw_c50 n xs 1 52 63 i jj N) else (if x4 = (51 : Int32) then (lw_c51 n xs 1 52 63 i jj N) else (if x4 = (52 : Int32) then (lw_c52 n xs 1 52 63 i jj N) else (if x4 = (53 : Int32) then (lw_c53 n xs 1 52 63 i jj N) else (if x4 = (54 : Int32) then (lw_c54 n xs 1 52 63 i jj N) else (if x4 = (55 : Int32) then (lw_c55 n xs 1 52 63 i jj N) else (if x4 = (56 : Int32) then (lw_c56 n xs 1 52 63 i jj N) else (if x4 = (57 : Int32) then (lw_c57 n xs 1 52 63 i jj N) else (if x4 = (58 : Int32) then (lw_c58 n xs 1 52 63 i jj N) else ((jj N))))))))))))))))))))))))))))))))))))))))))))))))))))))))))))
theorem lw_bd (n : Nat) (xs : Nat → Int32) (rec : Int32 → mm_T → Option (Int32 × mm_T)) (i : Int32) (N : mm_T) : lw_b n xs 1 52 63 rec i N = if nI n - (7 : Int32) < i then some ((1 : Int32), N) else (sl_I n xs i).bind fun x3 => lw_d n xs (x3 &&& (63 : Int32)) i (fun N => rec (i + (7 : Int32)) N) N := rfl
theorem zl_ite {c : Prop} [Decidable c] {X Y : Option (Int32 × mm_T)} {jj : mm_T → Option (Int32 × mm_T)} {N : mm_T} (hX : zl_N X jj N) (hY : zl_N Y jj N) : zl_N (if c then X else Y) jj N := by
  by_cases h : c
  · rw [if_pos h]; exact hX
  · rw [if_neg h]; exact hY
theorem zl_disp {n m : Nat} {xs : Nat → Int32} {i : Int32} {N : mm_T} {s : zy_T} (hI : zl_I N s) (hB : mm_n N + 300 < st_B) (R : zl_rd n xs i m) (x4 : Int32) (jj : mm_T → Option (Int32 × mm_T)) : zl_N (lw_d n xs x4 i jj N) jj N := by
  unfold lw_d
  refine zl_ite (zl_s0 hI hB R jj) ?_
  refine zl_ite (zl_s1 hI hB R jj) ?_
  refine zl_ite (zl_s2 hI hB R jj) ?_
  refine zl_ite (zl_s3 hI hB R jj) ?_
  refine zl_ite (zl_s4 hI hB R jj) ?_
  refine zl_ite (zl_s5 hI hB R jj) ?_
  refine zl_ite (zl_s6 hI hB R jj) ?_
  refine zl_ite (zl_s7 hI hB R jj) ?_
  refine zl_ite (zl_s8 hI hB R jj) ?_
  refine zl_ite (zl_s9 hI hB R jj) ?_
  refine zl_ite (zl_s10 hI hB R jj) ?_
  refine zl_ite (zl_s11 hI hB R jj) ?_
  refine zl_ite (zl_s12 hI hB R jj) ?_
  refine zl_ite (zl_s13 hI hB R jj) ?_
  refine zl_ite (zl_s14 hI hB R jj) ?_
  refine zl_ite (zl_s15 hI hB R jj) ?_
  refine zl_ite (zl_s16 hI hB R jj) ?_
  refine zl_ite (zl_s17 hI hB R jj) ?_
  refine zl_ite (zl_s18 hI hB R jj) ?_
  refine zl_ite (zl_s19 hI hB R jj) ?_
  refine zl_ite (zl_s20 hI hB R jj) ?_
  refine zl_ite (zl_s21 hI hB R jj) ?_
  refine zl_ite (zl_s22 hI hB R jj) ?_
  refine zl_ite (zl_s23 hI hB R jj) ?_
  refine zl_ite (zl_s24 hI hB R jj) ?_
  refine zl_ite (zl_s25 hI hB R jj) ?_
  refine zl_ite (zl_s26 hI hB R jj) ?_
  refine zl_ite (zl_s27 hI hB R jj) ?_
  refine zl_ite (zl_s28 hI hB R jj) ?_
  refine zl_ite (zl_s29 hI hB R jj) ?_
  refine zl_ite (zl_s30 hI hB R jj) ?_
  refine zl_ite (zl_s31 hI hB R jj) ?_
  refine zl_ite (zl_s32 hI hB R jj) ?_
  refine zl_ite (zl_s33 hI hB R jj) ?_
  refine zl_ite (zl_s34 hI hB R jj) ?_
  refine zl_ite (zl_s35 hI hB R jj) ?_
  refine zl_ite (zl_s36 hI hB R jj) ?_
  refine zl_ite (zl_s37 hI hB R jj) ?_
  refine zl_ite (zl_s38 hI hB R jj) ?_
  refine zl_ite (zl_s39 hI hB R jj) ?_
  refine zl_ite (zl_s40 hI hB R jj) ?_
  refine zl_ite (zl_s41 hI hB R jj) ?_
  refine zl_ite (zl_s42 hI hB R jj) ?_
  refine zl_ite (zl_s43 hI hB R jj) ?_
  refine zl_ite (zl_s44 hI hB R jj) ?_
  refine zl_ite (zl_s45 hI hB R jj) ?_
  refine zl_ite (zl_s46 hI hB R jj) ?_
  refine zl_ite (zl_s47 hI hB R jj) ?_
  refine zl_ite (zl_s48 hI hB R jj) ?_
  refine zl_ite (zl_s49 hI hB R jj) ?_
  refine zl_ite (zl_s50 hI hB R jj) ?_
  refine zl_ite (zl_s51 hI hB R jj) ?_
  refine zl_ite (zl_s52 hI hB R jj) ?_
  refine zl_ite (zl_s53 hI hB R jj) ?_
  refine zl_ite (zl_s54 hI hB R jj) ?_
  refine zl_ite (zl_s55 hI hB R jj) ?_
  refine zl_ite (zl_s56 hI hB R jj) ?_
  refine zl_ite (zl_s57 hI hB R jj) ?_
  refine zl_ite (zl_s58 hI hB R jj) ?_
  exact ⟨N, s, rfl, hI, by omega, by omega, by omega⟩
theorem zl_cond {n m : Nat} (hn : n ≤ 3584) (hm : m ≤ 3584) : nI n - (7 : Int32) < nI m ↔ n < m + 7 := by
  by_cases h : 7 ≤ n
  · rw [show (7 : Int32) = nI 7 from rfl, zi_sub h, nI_ltI (by omega) (by omega)]
    omega
  · have h1 : nI n - (7 : Int32) < 0 := by
      have q : ∀ k, k < 7 → nI k - (7 : Int32) < 0 := by decide +kernel
      exact q n (by omega)
    constructor
    · intro _; omega
    · intro _; exact Int32.lt_of_lt_of_le h1 (nI_pos' (by omega))
theorem zl_read {n m : Nat} {xs : Nat → Int32} (hn : n ≤ 3584) (hm : m + 7 ≤ n) : zl_rd n xs (nI m) m := by
  intro k hk
  unfold sl_I
  have e : (nI m + nI k).toInt = ((m + k : Nat) : Int) := by rw [nI_add, nI_toInt (by omega)]
  rw [e, if_pos (by omega)]
  rfl
theorem zl_step {n m : Nat} {xs : Nat → Int32} {N : mm_T} {s : zy_T} (hn : n ≤ 3584) (hm : m + 7 ≤ n) (hI : zl_I N s) (hB : mm_n N + 300 < st_B) (rec : Int32 → mm_T → Option (Int32 × mm_T)) : zl_N (lw_b n xs 1 52 63 rec (nI m) N) (fun N' => rec (nI (m + 7)) N') N := by
  have R := zl_read (xs := xs) hn hm
  have r0 : sl_I n xs (nI m) = some (xs m) := by
    have := R 0 (by omega)
    rw [nI_add, Nat.add_zero] at this
    exact this
  rw [lw_bd, if_neg (fun z => by have := (zl_cond hn (by omega)).mp z; omega), r0, Option.bind_some, show nI m + (7 : Int32) = nI (m + 7) from nI_add m 7]
  exact zl_disp hI hB R _ _
theorem zl_loop {n : Nat} {xs : Nat → Int32} (hn : n ≤ 3584) : ∀ (fu m : Nat) (N : mm_T) (s : zy_T), zl_I N s → m ≤ n → n < m + 7 * fu → mm_n N + 200 * fu + 300 < st_B → ∃ N', lw_f n xs 1 52 63 fu (nI m) N = some ((1 : Int32), N') ∧ mm_c N' ≤ mm_c N + 200 * fu ∧ mm_u N' ≤ mm_u N + 4000 * fu
  | 0, m, N, s, _, h1, h2, _ => by omega
  | fu + 1, m, N, s, hI, h1, h2, hB => by
    show ∃ N', lw_b n xs 1 52 63 (lw_f n xs 1 52 63 fu) (nI m) N = some ((1 : Int32), N') ∧ _
    by_cases h : m + 7 ≤ n
    · obtain ⟨N1, s1, e, i1, g1, g2, g3⟩ := zl_step (xs := xs) hn h hI (by omega) (lw_f n xs 1 52 63 fu)
      obtain ⟨N2, e2, g4, g5⟩ := zl_loop hn fu (m + 7) N1 s1 i1 h (by omega) (by omega)
      exact ⟨N2, e.trans e2, by omega, by omega⟩
    · refine ⟨N, ?_, by omega, by omega⟩
      rw [lw_bd, if_pos ((zl_cond hn (by omega)).mpr (by omega))]
