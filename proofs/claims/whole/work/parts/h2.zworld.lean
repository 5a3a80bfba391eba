/-! ===== the world of the law's start ===== -/
theorem gx_world {b L : Nat} {xs : Nat → Int32} {s : State} (hL : L ≤ 3584) (hts : ∀ w ∈ lw_tbl, w.before #[Value.ref b] s = true) (hX : va_X b L xs s s.heap) (hbl : b < s.heap.size) (hgv : (Jvm.Cond.and given_1 narrow_1).before #[Value.ref b] s = true) : ∃ G : gl_T, gf_g G s ∧ sc_H G L xs ∧ gl_K G 9000 = b ∧ gl_b G = s.heap.size := by
  have hs : ∀ c ∈ flatC narrow_1, c.before #[Value.ref b] s = true := flat_of_before narrow_1 (by
    rw [Cond.before_and, Bool.and_eq_true] at hgv
    exact hgv.2)
  have hA : ∀ a : Nat, a < s.heap.size → ¬ s.heap.size ≤ a := fun a h => Nat.not_le.mpr h
  obtain ⟨D, hD⟩ := gx_K hts
  obtain ⟨Q, hQ, hS⟩ := gx_strings (A := fun q => s.heap.size ≤ q) hs hA
  obtain ⟨⟨T1, T2⟩, ⟨T3, T4⟩, ⟨T5, T6, T7⟩, T8, T9, T10, T11⟩ := gx_T
  obtain ⟨N1, N2, N3, N4⟩ := gx_N
  obtain ⟨cI, aI⟩ := gx_arr (hts _ T8) (fun C h => by cases h)
  obtain ⟨cJ, aJ⟩ := gx_arr (hts _ T9) (fun C h => by cases h)
  obtain ⟨cZ, aZ⟩ := gx_arr (hts _ T10) (fun C h => by cases h)
  obtain ⟨cP, aP⟩ := gx_over (hts _ T11)
  have hF := va_Zqof (A := fun q => s.heap.size ≤ q) (hts _ T3) (hts _ T4) (hs _ N2) hA
  obtain ⟨fl, ft, hF⟩ : ∃ fl ft : Nat, va_Z "jdk/internal/util/Preconditions" "SIOOBE_FORMATTER" "Ljava/util/function/BiFunction;" (if fl = 0 then .null else .ref ft) (fun q => s.heap.size ≤ q) s s.heap := by
    rcases hF with h | ⟨t, h⟩
    · exact ⟨0, 0, h⟩
    · exact ⟨1, t, h⟩
  obtain ⟨y, hy⟩ : ∃ y : Nat → Nat, ∀ k, xs k = nI (y k) := ⟨fun k => Classical.choose (wb_of32 (xs k)), fun k => (Classical.choose_spec (wb_of32 (xs k))).2⟩
  let gK : Nat → Nat := fun q => if q < 31 then (Q q).1 else if q < 1031 then (Q (q - 1000)).2 else if q = 2000 then ft else b
  let gV : Nat → Nat := fun q => if q < 31 then (Q q).2 else if q = 5000 then fl else if q = 9000 then 1 else if q = 9001 then L else y (q - 9002)
  let gA : Nat → ClassId := fun q => if q = 20 then cI else if q = 21 then cJ else if q = 22 then cZ else cP
  have k1 : ∀ i, i < 31 → gK i = (Q i).1 := fun i h => if_pos h
  have k2 : ∀ i, i < 31 → gK (1000 + i) = (Q i).2 := fun i h => by
    show (if 1000 + i < 31 then (Q (1000 + i)).1 else if 1000 + i < 1031 then (Q (1000 + i - 1000)).2 else _) = _
    rw [if_neg (by omega), if_pos (by omega), Nat.add_sub_cancel_left]
  have k3 : gK 2000 = ft := by
    show (if 2000 < 31 then _ else if 2000 < 1031 then _ else if (2000 : Nat) = 2000 then ft else b) = ft
    rw [if_neg (by decide), if_neg (by decide), if_pos rfl]
  have k4 : gK 9000 = b := by
    show (if 9000 < 31 then _ else if 9000 < 1031 then _ else if (9000 : Nat) = 2000 then ft else b) = b
    rw [if_neg (by decide), if_neg (by decide), if_neg (by decide)]
  have v1 : ∀ i, i < 31 → gV i = (Q i).2 := fun i h => if_pos h
  have v2 : gV 5000 = fl := by
    show (if 5000 < 31 then _ else if (5000 : Nat) = 5000 then fl else _) = fl
    rw [if_neg (by decide), if_pos rfl]
  have v3 : gV 9000 = 1 := by
    show (if 9000 < 31 then _ else if (9000 : Nat) = 5000 then fl else if (9000 : Nat) = 9000 then 1 else _) = 1
    rw [if_neg (by decide), if_neg (by decide), if_pos rfl]
  have v4 : gV 9001 = L := by
    show (if 9001 < 31 then _ else if (9001 : Nat) = 5000 then fl else if (9001 : Nat) = 9000 then 1 else if (9001 : Nat) = 9001 then L else _) = L
    rw [if_neg (by decide), if_neg (by decide), if_neg (by decide), if_pos rfl]
  have v5 : ∀ k, gV (9002 + k) = y k := fun k => by
    show (if 9002 + k < 31 then _ else if 9002 + k = 5000 then fl else if 9002 + k = 9000 then 1 else if 9002 + k = 9001 then L else y (9002 + k - 9002)) = y k
    rw [if_neg (by omega), if_neg (by omega), if_neg (by omega), if_neg (by omega), Nat.add_sub_cancel_left]
  have g1 : gA 20 = cI := if_pos rfl
  have g2 : gA 21 = cJ := by
    show (if (21 : Nat) = 20 then cI else if (21 : Nat) = 21 then cJ else _) = cJ
    rw [if_neg (by decide), if_pos rfl]
  have g3 : gA 22 = cZ := by
    show (if (22 : Nat) = 20 then cI else if (22 : Nat) = 21 then cJ else if (22 : Nat) = 22 then cZ else cP) = cZ
    rw [if_neg (by decide), if_neg (by decide), if_pos rfl]
  have g4 : gA 23 = cP := by
    show (if (23 : Nat) = 20 then cI else if (23 : Nat) = 21 then cJ else if (23 : Nat) = 22 then cZ else cP) = cP
    rw [if_neg (by decide), if_neg (by decide), if_neg (by decide)]
  clear_value gK gV gA
  refine ⟨(fun k => (D k).1, fun k => (D k).2, gA, s.heap.size, gK, gV), ⟨⟨⟨hD, ?_⟩, ?_, ?_, ?_, ?_, ?_, ?_, ?_, ?_⟩, ⟨⟨?_, ?_⟩, ?_, ?_, ?_, ?_, ?_⟩, Nat.le_refl _⟩, ⟨?_, v4, ?_⟩, k4, rfl⟩
  · intro k q hq
    have hq : ([(gA 20, FieldType.int), (gA 21, .long), (gA 22, .boolean), (gA 23, .object "DataflowLab$Program")] : List (ClassId × FieldType))[k]? = some q := hq
    match k, hq with
    | 0, hq => cases hq; rw [g1]; exact aI
    | 1, hq => cases hq; rw [g2]; exact aJ
    | 2, hq => cases hq; rw [g3]; exact aZ
    | 3, hq => cases hq; rw [g4]; exact aP
    | k + 4, hq => simp at hq
  · exact fun q hq => va_Nw.of rfl (hts _ (gx_F q hq))
  · exact fun q hq => va_Nw.of rfl (hts _ (gx_M q hq))
  · exact fun q hq => va_Nw.of rfl (hts _ (gx_C q hq))
  · exact fun q hq => va_Nc.of (hs _ (gx_X q hq))
  · intro q hq
    obtain ⟨q1, q2⟩ := gx_ref q hq
    refine vk_R.of (A := #[Value.ref b]) (hts _ q2) ?_
    show _ = some (Value.ref (gK q.2.2.2))
    rw [k1 _ q1]
    rcases gx_same q hq with e | e
    · rw [e]; exact hQ _ q1
    · exact va_eqR (hs _ e) (hQ _ q1)
  · exact va_AO.of (A := #[Value.ref b]) (hts _ T11)
  · exact fun x hx => va_Nw.of rfl (hts _ (gx_D x hx))
  · intro i hi
    have hi : i < 31 := hi
    show gK (1000 + i) = gV i
    rw [k2 i hi, v1 i hi]
  · intro i hi
    have hi : i < 31 := hi
    have h := hS.1 i hi
    show va_O "java/lang/String" (gK i) _ s s.heap ∧ va_OF "java/lang/String" "coder" "B" (.int 0) (gK i) _ s s.heap ∧ va_OF "java/lang/String" "value" "[B" (.ref (gV i)) (gK i) _ s s.heap ∧ va_T .byte (gV i) (gs_len.getD i 0) (fun j => .int ((gs_byt.getD i []).getD j 0)) _ s s.heap
    rw [k1 i hi, v1 i hi]
    exact h
  · intro i j hi hj e
    have hi : i < 31 := hi
    have hj : j < 31 := hj
    have e : gK i = gK j := e
    rw [k1 i hi, k1 j hj] at e
    exact hS.2 i j hi hj e
  · exact vx_Zqof (hts _ T5) (hts _ T7) (hs _ N3) hA
  · exact vx_Zqof (hts _ T6) (hts _ T7) (hs _ N4) hA
  · exact va_Zof (hts _ T1) (hts _ T2) (va_eqi (hs _ N1)) hA
  · have e : cv_v ((fun k => (D k).1, fun k => (D k).2, gA, s.heap.size, gK, gV) : gl_T) (fun _ => 0) (.ref (sf_R ((fun k => (D k).1, fun k => (D k).2, gA, s.heap.size, gK, gV) : gl_T))) = if fl = 0 then .null else .ref ft := by
      have e1 : sf_R ((fun k => (D k).1, fun k => (D k).2, gA, s.heap.size, gK, gV) : gl_T) = if fl = 0 then 0 else st_B + 2000 := by
        show (if gV 5000 = 0 then 0 else st_B + 2000) = _
        rw [v2]
      rw [e1]
      by_cases c : fl = 0
      · rw [if_pos c, if_pos c]; rfl
      · rw [if_neg c, if_neg c, cv_st]
        show Value.ref (gK 2000) = _
        rw [k3]
    rw [e]
    exact hF
  · refine Or.inr ⟨?_, ?_⟩
    · show va_X (gK 9000) (gV 9001) (fun k => Int32.ofNat (gV (9002 + k))) s s.heap
      rw [k4, v4]
      have e : (fun k => Int32.ofNat (gV (9002 + k))) = xs := funext fun k => by rw [v5, hy]; rfl
      rw [e]
      exact hX
    · show ¬ s.heap.size ≤ gK 9000
      rw [k4]
      omega
  · show gV 9000 ≠ 0
    rw [v3]
    decide
  · intro k hk
    show Int32.ofNat (gV (9002 + k)) = xs k
    rw [v5, hy]
    rfl
