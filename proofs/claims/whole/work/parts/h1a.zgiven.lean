/-! ===== what the Statement gives of the start, as the worlds want it ===== -/
/-- each text: where it is named first, and the place of its premises -/
def gx_own : List (String × Nat × Nat) := [("DataflowLab", 461, 69), ("DataflowLab$Parser", 88, 233), ("DataflowLab$Parser", 154, 242), ("DataflowLab$Parser", 156, 249), ("DataflowLab$Parser", 158, 257), ("DataflowLab$Parser", 160, 265), ("DataflowLab$Parser", 162, 273), ("DataflowLab$Parser", 164, 281), ("DataflowLab$Parser", 166, 290), ("DataflowLab$Parser", 127, 299), ("DataflowLab$Parser", 132, 307), ("DataflowLab$Parser", 137, 315), ("DataflowLab", 96, 325), ("DataflowLab", 107, 352), ("DataflowLab", 438, 370), ("DataflowLab", 441, 387), ("DataflowLab", 158, 410), ("DataflowLab", 451, 444), ("DataflowLab", 220, 464), ("DataflowLab", 457, 503), ("DataflowLab", 459, 520), ("DataflowLab", 443, 547), ("DataflowLab", 453, 580), ("DataflowLab", 449, 600), ("DataflowLab", 455, 635), ("DataflowLab$Writer", 100, 681), ("DataflowLab$Writer", 102, 690), ("DataflowLab$Writer", 104, 700), ("DataflowLab", 424, 748), ("DataflowLab", 429, 775), ("DataflowLab", 434, 802)]
def gx_tm (i : Nat) : Term := .string (gx_own.getD i ("", 0, 0)).1 (gx_own.getD i ("", 0, 0)).2.1
def gx_fv (i : Nat) : Term := .field (gx_tm i) "java/lang/String" "value" "[B"
def gx_exp (i : Nat) : List Cond := [.exactly (gx_tm i) "java/lang/String", .eq (.field (gx_tm i) "java/lang/String" "coder" "B") (.int 0), .arrayOf (gx_fv i) .byte, .eq (.length (gx_fv i)) (.int (Int32.ofNat (gs_len.getD i 0)))] ++ (List.range (gs_len.getD i 0)).map (fun j => .eq (.elem (gx_fv i) (.int (Int32.ofNat j))) (.int ((gs_byt.getD i []).getD j 0)))
set_option maxRecDepth 100000 in
theorem gx_ok : ∀ i, i < 31 → ((flatC narrow_1).drop (gx_own.getD i ("", 0, 0)).2.2).take (4 + gs_len.getD i 0) = gx_exp i := by decide +kernel
set_option maxRecDepth 100000 in
theorem gx_ne : ∀ i, i < 31 → ∀ j, j < 31 → (gs_len.getD i 0 = gs_len.getD j 0 ∧ ∀ k, k < gs_len.getD i 0 → (gs_byt.getD i []).getD k 0 = (gs_byt.getD j []).getD k 0) → i = j := by decide +kernel
theorem gx_len : ∀ i, i < 31 → gs_len.getD i 0 < 2 ^ 31 := by decide +kernel
set_option maxRecDepth 100000 in
theorem gx_ref : ∀ q ∈ gs_ref, q.2.2.2 < 31 ∧ Cond.stringRef q.1 q.2.1 q.2.2.1 ∈ lw_tbl := by decide +kernel
set_option maxRecDepth 100000 in
theorem gx_same : ∀ q ∈ gs_ref, Term.string q.1 q.2.1 = gx_tm q.2.2.2 ∨ Cond.eq (gx_tm q.2.2.2) (.string q.1 q.2.1) ∈ flatC narrow_1 := by decide +kernel
set_option maxRecDepth 100000 in
theorem gx_F : ∀ q ∈ gn_F, Cond.fieldLinkNest q.1 q.2.1 q.2.2.1 q.2.2.2.1 q.2.2.2.2.1 q.2.2.2.2.2 ∈ lw_tbl := by decide +kernel
set_option maxRecDepth 100000 in
theorem gx_M : ∀ q ∈ gn_M, Cond.methodLinkNest q.1 q.2.1 q.2.2.1 q.2.2.2 ∈ lw_tbl := by decide +kernel
set_option maxRecDepth 100000 in
theorem gx_C : ∀ q ∈ gn_C, Cond.castable q.1 q.2 ∈ lw_tbl := by decide +kernel
set_option maxRecDepth 100000 in
theorem gx_X : ∀ q ∈ gn_X, Cond.not (.castable q.1 q.2) ∈ flatC narrow_1 := by decide +kernel
set_option maxRecDepth 100000 in
theorem gx_D : ∀ x ∈ gn_D, Cond.declares x ∈ lw_tbl := by decide +kernel
set_option maxRecDepth 100000 in
theorem gx_N : Cond.eq (.static "java/lang/String" "COMPACT_STRINGS" "Z") (.int 1) ∈ flatC narrow_1 ∧ Cond.isRef (.static "jdk/internal/util/Preconditions" "SIOOBE_FORMATTER" "Ljava/util/function/BiFunction;") ∈ flatC narrow_1 ∧ Cond.isRef (.static Bundle.tN "UNASSIGNED_STACK" Bundle.steD) ∈ flatC narrow_1 ∧ Cond.isRef (.static Bundle.tN "SUPPRESSED_SENTINEL" Bundle.listD) ∈ flatC narrow_1 := by decide +kernel
set_option maxRecDepth 100000 in
theorem gx_T : (Cond.laysStatic "java/lang/String" "COMPACT_STRINGS" "Z" ∈ lw_tbl ∧ Cond.initialized "java/lang/String" ∈ lw_tbl) ∧ (Cond.laysStatic "jdk/internal/util/Preconditions" "SIOOBE_FORMATTER" "Ljava/util/function/BiFunction;" ∈ lw_tbl ∧ Cond.initialized "jdk/internal/util/Preconditions" ∈ lw_tbl) ∧ (Cond.laysStatic Bundle.tN "UNASSIGNED_STACK" Bundle.steD ∈ lw_tbl ∧ Cond.laysStatic Bundle.tN "SUPPRESSED_SENTINEL" Bundle.listD ∈ lw_tbl ∧ Cond.initialized Bundle.tN ∈ lw_tbl) ∧ (Cond.arrayClass .int ∈ lw_tbl ∧ Cond.arrayClass .long ∈ lw_tbl ∧ Cond.arrayClass .boolean ∈ lw_tbl ∧ Cond.arrayOver (.object "DataflowLab$Program") ∈ lw_tbl) := by decide +kernel
