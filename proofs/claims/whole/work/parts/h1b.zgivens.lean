section GX
variable {args : Array Value} {s : State} {A : Nat → Prop}
theorem gx_K (hts : ∀ w ∈ lw_tbl, w.before args s = true) : ∃ D : Nat → ClassId × (Nat → Nat), ∀ (k : Nat) (q : vw_C), vwCl[k]? = some q → u_Kn s q.1 q.2.1 q.2.2 (D k).1 (D k).2 := by
  have htb : ∀ w ∈ tb_G, w.before args s = true := fun w hw => hts w (tb_l hw)
  have h : ∀ k : Nat, ∃ D : ClassId × (Nat → Nat), ∀ q : vw_C, vwCl[k]? = some q → u_Kn s q.1 q.2.1 q.2.2 D.1 D.2 := by
    intro k
    match k with
    | 0 =>
      obtain ⟨c, f, h⟩ := u_known (C := RX0) (T := TX0) (N := 4) (n := 4) htb inTX0 (hts (.instantiable RX0 4) (List.mem_of_getElem? (i := 359) (by decide +kernel)))
      exact ⟨(c, f), fun q hq => by cases hq; exact h⟩
    | 1 =>
      obtain ⟨c, f, h⟩ := u_known (C := RX2) (T := TX2) (N := 3) (n := 3) htb inTX2 (hts (.instantiable RX2 3) (List.mem_of_getElem? (i := 379) (by decide +kernel)))
      exact ⟨(c, f), fun q hq => by cases hq; exact h⟩
    | 2 =>
      obtain ⟨c, f, h⟩ := u_known (C := RX3) (T := TX3) (N := 7) (n := 7) htb inTX3 (hts (.instantiable RX3 7) (List.mem_of_getElem? (i := 292) (by decide +kernel)))
      exact ⟨(c, f), fun q hq => by cases hq; exact h⟩
    | 3 =>
      obtain ⟨c, f, h⟩ := u_known (C := RX4) (T := TX4) (N := 3) (n := 3) htb inTX4 (hts (.instantiable RX4 3) (List.mem_of_getElem? (i := 273) (by decide +kernel)))
      exact ⟨(c, f), fun q hq => by cases hq; exact h⟩
    | 4 =>
      obtain ⟨c, f, h⟩ := u_known (C := RX5) (T := TX5) (N := 3) (n := 3) htb inTX5 (hts (.instantiable RX5 3) (List.mem_of_getElem? (i := 342) (by decide +kernel)))
      exact ⟨(c, f), fun q hq => by cases hq; exact h⟩
    | 5 =>
      obtain ⟨c, f, h⟩ := u_known (C := RX6) (T := TX6) (N := 7) (n := 7) htb inTX6 (hts (.instantiable RX6 7) (List.mem_of_getElem? (i := 396) (by decide +kernel)))
      exact ⟨(c, f), fun q hq => by cases hq; exact h⟩
    | 6 =>
      obtain ⟨c, f, h⟩ := u_known (C := RX7) (T := TX7) (N := 10) (n := 10) htb inTX7 (hts (.instantiable RX7 10) (List.mem_of_getElem? (i := 220) (by decide +kernel)))
      exact ⟨(c, f), fun q hq => by cases hq; exact h⟩
    | 7 =>
      obtain ⟨c, f, h⟩ := u_known (C := RX8) (T := TX8) (N := 8) (n := 8) htb inTX8 (hts (.instantiable RX8 8) (List.mem_of_getElem? (i := 180) (by decide +kernel)))
      exact ⟨(c, f), fun q hq => by cases hq; exact h⟩
    | 8 =>
      obtain ⟨c, f, h⟩ := u_known (C := RX9) (T := TX9) (N := 4) (n := 4) htb inTX9 (hts (.instantiable RX9 4) (List.mem_of_getElem? (i := 321) (by decide +kernel)))
      exact ⟨(c, f), fun q hq => by cases hq; exact h⟩
    | 9 =>
      obtain ⟨c, f, h⟩ := u_known (C := RX10) (T := TX10) (N := 2) (n := 2) htb inTX10 (hts (.instantiable RX10 2) (List.mem_of_getElem? (i := 259) (by decide +kernel)))
      exact ⟨(c, f), fun q hq => by cases hq; exact h⟩
    | 10 =>
      obtain ⟨c, f, h⟩ := u_known (C := RX11) (T := TX11) (N := 12) (n := 12) htb inTX11 (hts (.instantiable RX11 12) (List.mem_of_getElem? (i := 172) (by decide +kernel)))
      exact ⟨(c, f), fun q hq => by cases hq; exact h⟩
    | 11 =>
      obtain ⟨c, f, h⟩ := u_known (C := RX12) (T := TX12) (N := 25) (n := 25) htb inTX12 (hts (.instantiable RX12 25) (List.mem_of_getElem? (i := 1792) (by decide +kernel)))
      exact ⟨(c, f), fun q hq => by cases hq; exact h⟩
    | k + 12 => exact ⟨(0, fun _ => 0), fun q hq => by simp at hq⟩
  exact ⟨fun k => Classical.choose (h k), fun k => Classical.choose_spec (h k)⟩
theorem gx_arr {ty : FieldType} (h : (Cond.arrayClass ty).before args s = true) (hp : ∀ C, ty ≠ .object C) : ∃ c : ClassId, ArrOfT s c ty ∧ va_RA s c ty := by
  obtain ⟨c, k, comp, h1, h2, h3⟩ := Cond.arrayClass_spec h
  refine ⟨c, fun n z => ⟨fun k h => (by cases h), k, h2, comp, h3⟩, ?_⟩
  cases ty <;> first | exact h1 | exact absurd rfl (hp _)
theorem gx_over (h : (Cond.arrayOver (.object "DataflowLab$Program")).before args s = true) : ∃ c : ClassId, ArrOfT s c (.object "DataflowLab$Program") ∧ va_RA s c (.object "DataflowLab$Program") := by
  obtain ⟨comp, c, k, h1, h2, h3, h4, h5⟩ := Cond.arrayOver_spec h
  exact ⟨c, fun n z => ⟨fun k h => (by cases h), k, h3, comp, h4⟩, k, comp, h3, h4, h1, h5⟩
/-- one text -/
theorem gx_str (hs : ∀ c ∈ flatC narrow_1, c.before args s = true) (hA : ∀ a : Nat, a < s.heap.size → ¬ A a) (i : Nat) : ∃ q : Nat × Nat, i < 31 → (gx_tm i).eval args s none [] s = some (.ref q.1) ∧ va_O "java/lang/String" q.1 A s s.heap ∧ va_OF "java/lang/String" "coder" "B" (.int 0) q.1 A s s.heap ∧ va_OF "java/lang/String" "value" "[B" (.ref q.2) q.1 A s s.heap ∧ va_T .byte q.2 (gs_len.getD i 0) (fun j => .int ((gs_byt.getD i []).getD j 0)) A s s.heap := by
  by_cases hi : i < 31
  · have hx : ∀ c ∈ gx_exp i, c.before args s = true := by
      rw [← gx_ok i hi]
      exact fun c hc => hs c (List.mem_of_mem_drop (List.mem_of_mem_take hc))
    unfold gx_exp at hx
    have h4 := fun c (hc : c ∈ ([.exactly (gx_tm i) "java/lang/String", .eq (.field (gx_tm i) "java/lang/String" "coder" "B") (.int 0), .arrayOf (gx_fv i) .byte, .eq (.length (gx_fv i)) (.int (Int32.ofNat (gs_len.getD i 0)))] : List Cond)) => hx c (List.mem_append_left _ hc)
    obtain ⟨adK, adV, hS, hT⟩ := vk_Sof (args := args) (s := s) (N := 1) (tm := fun _ => gx_tm i) (len := [gs_len.getD i 0]) (byt := [gs_byt.getD i []]) (A := A)
      (fun k hk => by obtain rfl : k = 0 := by omega
                      exact gx_len i hi)
      (fun k hk => h4 _ (List.mem_of_getElem? (i := 0) rfl)) (fun k hk => h4 _ (List.mem_of_getElem? (i := 1) rfl)) (fun k hk => h4 _ (List.mem_of_getElem? (i := 2) rfl))
      (fun k hk => by obtain rfl : k = 0 := by omega
                      exact h4 _ (List.mem_of_getElem? (i := 3) rfl))
      (fun k hk j hj => by obtain rfl : k = 0 := by omega
                           exact hx _ (List.mem_append_right _ (List.mem_map.mpr ⟨j, List.mem_range.mpr hj, rfl⟩)))
      (fun a b ha hb hab => absurd (show a = b by omega) hab) hA
    exact ⟨(adK 0, adV 0), fun _ => ⟨hT 0 (by omega), (hS.1 0 (by omega))⟩⟩
  · exact ⟨(0, 0), fun h => absurd h hi⟩
theorem gx_strings (hs : ∀ c ∈ flatC narrow_1, c.before args s = true) (hA : ∀ a : Nat, a < s.heap.size → ¬ A a) : ∃ Q : Nat → Nat × Nat, (∀ i, i < 31 → (gx_tm i).eval args s none [] s = some (.ref (Q i).1)) ∧ vk_S 31 gs_len gs_byt (fun i => (Q i).1) (fun i => (Q i).2) A s s.heap := by
  obtain ⟨Q, hQ⟩ : ∃ Q : Nat → Nat × Nat, ∀ i, i < 31 → (gx_tm i).eval args s none [] s = some (.ref (Q i).1) ∧ va_O "java/lang/String" (Q i).1 A s s.heap ∧ va_OF "java/lang/String" "coder" "B" (.int 0) (Q i).1 A s s.heap ∧ va_OF "java/lang/String" "value" "[B" (.ref (Q i).2) (Q i).1 A s s.heap ∧ va_T .byte (Q i).2 (gs_len.getD i 0) (fun j => .int ((gs_byt.getD i []).getD j 0)) A s s.heap :=
    ⟨fun i => Classical.choose (gx_str (args := args) (s := s) (A := A) hs hA i), fun i => Classical.choose_spec (gx_str (args := args) (s := s) (A := A) hs hA i)⟩
  refine ⟨Q, fun i hi => (hQ i hi).1, fun i hi => (hQ i hi).2, fun i j hi hj e => ?_⟩
  have e : (Q i).1 = (Q j).1 := e
  obtain ⟨-, -, -, v1, t1⟩ := hQ i hi
  obtain ⟨-, -, -, v2, t2⟩ := hQ j hj
  obtain ⟨cf, k, n, f, cell, a1, a2, a3, a4, a5, -⟩ := v1
  obtain ⟨cf', k', n', f', cell', b1, b2, b3, b4, b5, -⟩ := v2
  rw [a1] at b1
  cases b1
  rw [← e, a3] at b3
  cases b3
  rw [a5] at b5
  have eV : (Q i).2 = (Q j).2 := Value.ref.inj (Option.some.inj b5)
  obtain ⟨c1, p1, -, -, -, p5, p6, -⟩ := t1
  obtain ⟨c2, q1, -, -, -, q5, q6, -⟩ := t2
  rw [← eV, p1] at q1
  cases q1
  rw [p5] at q5
  have el : gs_len.getD i 0 = gs_len.getD j 0 := (nI_eq (gx_len i hi) (gx_len j hj)).mp q5
  refine gx_ne i hi j hj ⟨el, fun k hk => ?_⟩
  have z1 := p6 k hk
  have z2 := q6 k (by rw [← el]; exact hk)
  rw [z1] at z2
  have z3 := Option.some.inj z2
  exact Value.int.inj z3
end GX
