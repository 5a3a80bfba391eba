/-! ===== names: classes and their fields (the printed names), words by their places, methods ===== -/
def RX0 : String := "DataflowLab$Available"
def TX0 : u_T := fun k => match k with
  | 0 => ("DataflowLab$Available", "known", "Z", false)
  | 1 => ("DataflowLab$Available", "names", "[I", true)
  | 2 => ("DataflowLab$Available", "namesWith", "[J", true)
  | _ => ("DataflowLab$Available", "before", "[J", true)
def tyX0 : Nat → FieldType := fun k => match k with
  | 0 => .boolean
  | 1 => .array .int
  | 2 => .array .long
  | _ => .array .long
theorem nmX0 : ∀ a, a < 4 → ∀ b, b < 4 → a ≠ b → (TX0 a).2.1 ≠ (TX0 b).2.1 := by decide +kernel
theorem tyX0_ok : ∀ k, k < 4 → parseFieldDescriptor (TX0 k).2.2.1 = some (tyX0 k) := by decide +kernel
def RX1 : String := "DataflowLab$Code"
def TX1 : u_T := fun k => match k with
  | _ => ("", "", "", false)
def tyX1 : Nat → FieldType := fun k => match k with
  | _ => .int
theorem nmX1 : ∀ a, a < 0 → ∀ b, b < 0 → a ≠ b → (TX1 a).2.1 ≠ (TX1 b).2.1 := by decide +kernel
theorem tyX1_ok : ∀ k, k < 0 → parseFieldDescriptor (TX1 k).2.2.1 = some (tyX1 k) := by decide +kernel
def RX2 : String := "DataflowLab$Constants"
def TX2 : u_T := fun k => match k with
  | 0 => ("DataflowLab$Constants", "known", "Z", false)
  | 1 => ("DataflowLab$Constants", "before", "[I", true)
  | _ => ("DataflowLab$Constants", "given", "[I", true)
def tyX2 : Nat → FieldType := fun k => match k with
  | 0 => .boolean
  | 1 => .array .int
  | _ => .array .int
theorem nmX2 : ∀ a, a < 3 → ∀ b, b < 3 → a ≠ b → (TX2 a).2.1 ≠ (TX2 b).2.1 := by decide +kernel
theorem tyX2_ok : ∀ k, k < 3 → parseFieldDescriptor (TX2 k).2.2.1 = some (tyX2 k) := by decide +kernel
def RX3 : String := "DataflowLab$Graph"
def TX3 : u_T := fun k => match k with
  | 0 => ("DataflowLab$Graph", "known", "Z", false)
  | 1 => ("DataflowLab$Graph", "reached", "I", false)
  | 2 => ("DataflowLab$Graph", "successors", "[I", true)
  | 3 => ("DataflowLab$Graph", "predecessors", "[I", true)
  | 4 => ("DataflowLab$Graph", "distances", "[I", true)
  | 5 => ("DataflowLab$Graph", "dominators", "[I", true)
  | _ => ("DataflowLab$Graph", "bodies", "[I", true)
def tyX3 : Nat → FieldType := fun k => match k with
  | 0 => .boolean
  | 1 => .int
  | 2 => .array .int
  | 3 => .array .int
  | 4 => .array .int
  | 5 => .array .int
  | _ => .array .int
theorem nmX3 : ∀ a, a < 7 → ∀ b, b < 7 → a ≠ b → (TX3 a).2.1 ≠ (TX3 b).2.1 := by decide +kernel
theorem tyX3_ok : ∀ k, k < 7 → parseFieldDescriptor (TX3 k).2.2.1 = some (tyX3 k) := by decide +kernel
def RX4 : String := "DataflowLab$History"
def TX4 : u_T := fun k => match k with
  | 0 => ("DataflowLab$History", "kept", "[LDataflowLab$Program;", true)
  | 1 => ("DataflowLab$History", "next", "I", false)
  | _ => ("DataflowLab$History", "count", "I", false)
def tyX4 : Nat → FieldType := fun k => match k with
  | 0 => .array (.object "DataflowLab$Program")
  | 1 => .int
  | _ => .int
theorem nmX4 : ∀ a, a < 3 → ∀ b, b < 3 → a ≠ b → (TX4 a).2.1 ≠ (TX4 b).2.1 := by decide +kernel
theorem tyX4_ok : ∀ k, k < 3 → parseFieldDescriptor (TX4 k).2.2.1 = some (tyX4 k) := by decide +kernel
def RX5 : String := "DataflowLab$Liveness"
def TX5 : u_T := fun k => match k with
  | 0 => ("DataflowLab$Liveness", "known", "Z", false)
  | 1 => ("DataflowLab$Liveness", "before", "[I", true)
  | _ => ("DataflowLab$Liveness", "behind", "[I", true)
def tyX5 : Nat → FieldType := fun k => match k with
  | 0 => .boolean
  | 1 => .array .int
  | _ => .array .int
theorem nmX5 : ∀ a, a < 3 → ∀ b, b < 3 → a ≠ b → (TX5 a).2.1 ≠ (TX5 b).2.1 := by decide +kernel
theorem tyX5_ok : ∀ k, k < 3 → parseFieldDescriptor (TX5 k).2.2.1 = some (tyX5 k) := by decide +kernel
def RX6 : String := "DataflowLab$Machine"
def TX6 : u_T := fun k => match k with
  | 0 => ("DataflowLab$Machine", "values", "[I", true)
  | 1 => ("DataflowLab$Machine", "entries", "[I", true)
  | 2 => ("DataflowLab$Machine", "defined", "I", false)
  | 3 => ("DataflowLab$Machine", "point", "I", false)
  | 4 => ("DataflowLab$Machine", "steps", "I", false)
  | 5 => ("DataflowLab$Machine", "shown", "I", false)
  | _ => ("DataflowLab$Machine", "ended", "Z", false)
def tyX6 : Nat → FieldType := fun k => match k with
  | 0 => .array .int
  | 1 => .array .int
  | 2 => .int
  | 3 => .int
  | 4 => .int
  | 5 => .int
  | _ => .boolean
theorem nmX6 : ∀ a, a < 7 → ∀ b, b < 7 → a ≠ b → (TX6 a).2.1 ≠ (TX6 b).2.1 := by decide +kernel
theorem tyX6_ok : ∀ k, k < 7 → parseFieldDescriptor (TX6 k).2.2.1 = some (tyX6 k) := by decide +kernel
def RX7 : String := "DataflowLab$Parser"
def TX7 : u_T := fun k => match k with
  | 0 => ("DataflowLab$Parser", "bytes", "[I", true)
  | 1 => ("DataflowLab$Parser", "length", "I", false)
  | 2 => ("DataflowLab$Parser", "reportedCode", "I", false)
  | 3 => ("DataflowLab$Parser", "reportedPosition", "I", false)
  | 4 => ("DataflowLab$Parser", "token", "I", false)
  | 5 => ("DataflowLab$Parser", "start", "I", false)
  | 6 => ("DataflowLab$Parser", "end", "I", false)
  | 7 => ("DataflowLab$Parser", "value", "I", false)
  | 8 => ("DataflowLab$Parser", "firstPositions", "[I", true)
  | _ => ("DataflowLab$Parser", "secondPositions", "[I", true)
def tyX7 : Nat → FieldType := fun k => match k with
  | 0 => .array .int
  | 1 => .int
  | 2 => .int
  | 3 => .int
  | 4 => .int
  | 5 => .int
  | 6 => .int
  | 7 => .int
  | 8 => .array .int
  | _ => .array .int
theorem nmX7 : ∀ a, a < 10 → ∀ b, b < 10 → a ≠ b → (TX7 a).2.1 ≠ (TX7 b).2.1 := by decide +kernel
theorem tyX7_ok : ∀ k, k < 10 → parseFieldDescriptor (TX7 k).2.2.1 = some (tyX7 k) := by decide +kernel
def RX8 : String := "DataflowLab$Program"
def TX8 : u_T := fun k => match k with
  | 0 => ("DataflowLab$Program", "blocks", "I", false)
  | 1 => ("DataflowLab$Program", "instructions", "I", false)
  | 2 => ("DataflowLab$Program", "words", "[I", true)
  | 3 => ("DataflowLab$Program", "starts", "[I", true)
  | 4 => ("DataflowLab$Program", "ways", "[I", true)
  | 5 => ("DataflowLab$Program", "tested", "[I", true)
  | 6 => ("DataflowLab$Program", "firsts", "[I", true)
  | _ => ("DataflowLab$Program", "seconds", "[I", true)
def tyX8 : Nat → FieldType := fun k => match k with
  | 0 => .int
  | 1 => .int
  | 2 => .array .int
  | 3 => .array .int
  | 4 => .array .int
  | 5 => .array .int
  | 6 => .array .int
  | _ => .array .int
theorem nmX8 : ∀ a, a < 8 → ∀ b, b < 8 → a ≠ b → (TX8 a).2.1 ≠ (TX8 b).2.1 := by decide +kernel
theorem tyX8_ok : ∀ k, k < 8 → parseFieldDescriptor (TX8 k).2.2.1 = some (tyX8 k) := by decide +kernel
def RX9 : String := "DataflowLab$Reaching"
def TX9 : u_T := fun k => match k with
  | 0 => ("DataflowLab$Reaching", "known", "Z", false)
  | 1 => ("DataflowLab$Reaching", "definitions", "[J", true)
  | 2 => ("DataflowLab$Reaching", "initials", "[I", true)
  | _ => ("DataflowLab$Reaching", "definitionsOf", "[J", true)
def tyX9 : Nat → FieldType := fun k => match k with
  | 0 => .boolean
  | 1 => .array .long
  | 2 => .array .int
  | _ => .array .long
theorem nmX9 : ∀ a, a < 4 → ∀ b, b < 4 → a ≠ b → (TX9 a).2.1 ≠ (TX9 b).2.1 := by decide +kernel
theorem tyX9_ok : ∀ k, k < 4 → parseFieldDescriptor (TX9 k).2.2.1 = some (tyX9 k) := by decide +kernel
def RX10 : String := "DataflowLab$Writer"
def TX10 : u_T := fun k => match k with
  | 0 => ("DataflowLab$Writer", "bytes", "[I", true)
  | _ => ("DataflowLab$Writer", "length", "I", false)
def tyX10 : Nat → FieldType := fun k => match k with
  | 0 => .array .int
  | _ => .int
theorem nmX10 : ∀ a, a < 2 → ∀ b, b < 2 → a ≠ b → (TX10 a).2.1 ≠ (TX10 b).2.1 := by decide +kernel
theorem tyX10_ok : ∀ k, k < 2 → parseFieldDescriptor (TX10 k).2.2.1 = some (tyX10 k) := by decide +kernel
def RX11 : String := "DataflowLab"
def TX11 : u_T := fun k => match k with
  | 0 => ("DataflowLab", "program", "LDataflowLab$Program;", true)
  | 1 => ("DataflowLab", "draft", "LDataflowLab$Program;", true)
  | 2 => ("DataflowLab", "parser", "LDataflowLab$Parser;", true)
  | 3 => ("DataflowLab", "writer", "LDataflowLab$Writer;", true)
  | 4 => ("DataflowLab", "history", "LDataflowLab$History;", true)
  | 5 => ("DataflowLab", "snapshots", "[LDataflowLab$Program;", true)
  | 6 => ("DataflowLab", "theGraph", "LDataflowLab$Graph;", true)
  | 7 => ("DataflowLab", "theReaching", "LDataflowLab$Reaching;", true)
  | 8 => ("DataflowLab", "theLiveness", "LDataflowLab$Liveness;", true)
  | 9 => ("DataflowLab", "theAvailable", "LDataflowLab$Available;", true)
  | 10 => ("DataflowLab", "theConstants", "LDataflowLab$Constants;", true)
  | _ => ("DataflowLab", "machine", "LDataflowLab$Machine;", true)
def tyX11 : Nat → FieldType := fun k => match k with
  | 0 => .object "DataflowLab$Program"
  | 1 => .object "DataflowLab$Program"
  | 2 => .object "DataflowLab$Parser"
  | 3 => .object "DataflowLab$Writer"
  | 4 => .object "DataflowLab$History"
  | 5 => .array (.object "DataflowLab$Program")
  | 6 => .object "DataflowLab$Graph"
  | 7 => .object "DataflowLab$Reaching"
  | 8 => .object "DataflowLab$Liveness"
  | 9 => .object "DataflowLab$Available"
  | 10 => .object "DataflowLab$Constants"
  | _ => .object "DataflowLab$Machine"
theorem nmX11 : ∀ a, a < 12 → ∀ b, b < 12 → a ≠ b → (TX11 a).2.1 ≠ (TX11 b).2.1 := by decide +kernel
theorem tyX11_ok : ∀ k, k < 12 → parseFieldDescriptor (TX11 k).2.2.1 = some (tyX11 k) := by decide +kernel
def RX12 : String := "DataflowLabModel"
def TX12 : u_T := fun k => match k with
  | 0 => ("DataflowLabModel", "s", "[I", true)
  | 1 => ("DataflowLabModel", "isSaved", "[Z", true)
  | 2 => ("DataflowLabModel", "o", "I", false)
  | 3 => ("DataflowLabModel", "undos", "I", false)
  | 4 => ("DataflowLabModel", "thrown", "I", false)
  | 5 => ("DataflowLabModel", "seen", "[Z", true)
  | 6 => ("DataflowLabModel", "lacks", "[Z", true)
  | 7 => ("DataflowLabModel", "known", "[I", true)
  | 8 => ("DataflowLabModel", "now", "[I", true)
  | 9 => ("DataflowLabModel", "value", "[I", true)
  | 10 => ("DataflowLabModel", "runBlock", "I", false)
  | 11 => ("DataflowLabModel", "runPlace", "I", false)
  | 12 => ("DataflowLabModel", "lastShow", "I", false)
  | 13 => ("DataflowLabModel", "isOver", "Z", false)
  | 14 => ("DataflowLabModel", "text", "[I", true)
  | 15 => ("DataflowLabModel", "length", "I", false)
  | 16 => ("DataflowLabModel", "code", "I", false)
  | 17 => ("DataflowLabModel", "position", "I", false)
  | 18 => ("DataflowLabModel", "at", "I", false)
  | 19 => ("DataflowLabModel", "begin", "I", false)
  | 20 => ("DataflowLabModel", "token", "I", false)
  | 21 => ("DataflowLabModel", "number", "I", false)
  | 22 => ("DataflowLabModel", "told", "[I", true)
  | 23 => ("DataflowLabModel", "out", "[I", true)
  | _ => ("DataflowLabModel", "written", "I", false)
def tyX12 : Nat → FieldType := fun k => match k with
  | 0 => .array .int
  | 1 => .array .boolean
  | 2 => .int
  | 3 => .int
  | 4 => .int
  | 5 => .array .boolean
  | 6 => .array .boolean
  | 7 => .array .int
  | 8 => .array .int
  | 9 => .array .int
  | 10 => .int
  | 11 => .int
  | 12 => .int
  | 13 => .boolean
  | 14 => .array .int
  | 15 => .int
  | 16 => .int
  | 17 => .int
  | 18 => .int
  | 19 => .int
  | 20 => .int
  | 21 => .int
  | 22 => .array .int
  | 23 => .array .int
  | _ => .int
theorem nmX12 : ∀ a, a < 25 → ∀ b, b < 25 → a ≠ b → (TX12 a).2.1 ≠ (TX12 b).2.1 := by decide +kernel
theorem tyX12_ok : ∀ k, k < 25 → parseFieldDescriptor (TX12 k).2.2.1 = some (tyX12 k) := by decide +kernel
abbrev vwCl : List vw_C := [(RX0, TX0, 4), (RX2, TX2, 3), (RX3, TX3, 7), (RX4, TX4, 3), (RX5, TX5, 3), (RX6, TX6, 7), (RX7, TX7, 10), (RX8, TX8, 8), (RX9, TX9, 4), (RX10, TX10, 2), (RX11, TX11, 12), (RX12, TX12, 25)]
def tb_G : List Cond := lw_tbl.filter goodWord
theorem tb_m {w : Cond} (i : Nat) (h : lw_tbl[i]? = some w) (g : goodWord w = true) : w ∈ tb_G := List.mem_filter.mpr ⟨List.mem_of_getElem? h, g⟩
theorem tb_l {w : Cond} (h : w ∈ tb_G) : w ∈ lw_tbl := (List.mem_filter.mp h).1
theorem tb_g {w : Cond} (h : w ∈ tb_G) : goodWord w = true := (List.mem_filter.mp h).2
/-- a method: own class, name, code, variables, answer, handlers, instructions -/
abbrev mi_T : Type := String × MethodName × ByteArray × Nat × Option FieldType × List (Nat × Nat × Nat × Nat) × List (Nat × Instr × Nat)
def mi_own (m : mi_T) : String := m.1
def mi_y (m : mi_T) : MethodName := m.2.1
def mi_cc (m : mi_T) : ByteArray := m.2.2.1
def mi_nL (m : mi_T) : Nat := m.2.2.2.1
def mi_ret (m : mi_T) : Option FieldType := m.2.2.2.2.1
def mi_hh (m : mi_T) : List (Nat × Nat × Nat × Nat) := m.2.2.2.2.2.1
def mi_tb (m : mi_T) : List (Nat × Instr × Nat) := m.2.2.2.2.2.2
def mi_cw (m : mi_T) : Cond := if (mi_hh m).isEmpty = true then .code (mi_y m) (mi_cc m) (mi_nL m) (mi_ret m) else .codeWith (mi_y m) (mi_cc m) (mi_nL m) (mi_ret m) (mi_hh m)
def mi_ok (m : mi_T) : Prop := ∀ q ∈ mi_tb m, decode (mi_cc m) q.1 = .ok q.2
/-- what a caller needs of a method's words: its code, its class initialised, a plain class name, how many arguments -/
def mi_w (m : mi_T) (n : Nat) : Prop := mi_cw m ∈ tb_G ∧ Cond.initialized (mi_y m).cls ∈ tb_G ∧ ((mi_y m).cls ≠ "java/lang/invoke/MethodHandle" ∧ (mi_y m).cls ≠ "java/lang/invoke/VarHandle" ∧ (parseMethodDescriptor (mi_y m).desc).map (fun d => d.parameters.length) = some n) ∧ plainName (mi_y m).cls = true
def mi_wV (m : mi_T) : Prop := Cond.instanceMethod (mi_y m) ∈ tb_G ∧ Cond.selects (mi_y m).cls (mi_y m) (mi_y m) ∈ tb_G
theorem inTX0 : ∀ w ∈ u_ws RX0 TX0 4, w ∈ tb_G := by
  intro w hw
  obtain ⟨k, hk, rfl⟩ := List.mem_map.mp hw
  have hk := List.mem_range.mp hk
  exact match k, hk with
  | 0, _ => tb_m 369 (by decide +kernel) rfl
  | 1, _ => tb_m 371 (by decide +kernel) rfl
  | 2, _ => tb_m 373 (by decide +kernel) rfl
  | 3, _ => tb_m 375 (by decide +kernel) rfl
  | k + 4, h => absurd h (by omega)
theorem inTX2 : ∀ w ∈ u_ws RX2 TX2 3, w ∈ tb_G := by
  intro w hw
  obtain ⟨k, hk, rfl⟩ := List.mem_map.mp hw
  have hk := List.mem_range.mp hk
  exact match k, hk with
  | 0, _ => tb_m 388 (by decide +kernel) rfl
  | 1, _ => tb_m 390 (by decide +kernel) rfl
  | 2, _ => tb_m 392 (by decide +kernel) rfl
  | k + 3, h => absurd h (by omega)
theorem inTX3 : ∀ w ∈ u_ws RX3 TX3 7, w ∈ tb_G := by
  intro w hw
  obtain ⟨k, hk, rfl⟩ := List.mem_map.mp hw
  have hk := List.mem_range.mp hk
  exact match k, hk with
  | 0, _ => tb_m 305 (by decide +kernel) rfl
  | 1, _ => tb_m 307 (by decide +kernel) rfl
  | 2, _ => tb_m 309 (by decide +kernel) rfl
  | 3, _ => tb_m 311 (by decide +kernel) rfl
  | 4, _ => tb_m 313 (by decide +kernel) rfl
  | 5, _ => tb_m 315 (by decide +kernel) rfl
  | 6, _ => tb_m 317 (by decide +kernel) rfl
  | k + 7, h => absurd h (by omega)
theorem inTX4 : ∀ w ∈ u_ws RX4 TX4 3, w ∈ tb_G := by
  intro w hw
  obtain ⟨k, hk, rfl⟩ := List.mem_map.mp hw
  have hk := List.mem_range.mp hk
  exact match k, hk with
  | 0, _ => tb_m 284 (by decide +kernel) rfl
  | 1, _ => tb_m 286 (by decide +kernel) rfl
  | 2, _ => tb_m 288 (by decide +kernel) rfl
  | k + 3, h => absurd h (by omega)
theorem inTX5 : ∀ w ∈ u_ws RX5 TX5 3, w ∈ tb_G := by
  intro w hw
  obtain ⟨k, hk, rfl⟩ := List.mem_map.mp hw
  have hk := List.mem_range.mp hk
  exact match k, hk with
  | 0, _ => tb_m 351 (by decide +kernel) rfl
  | 1, _ => tb_m 353 (by decide +kernel) rfl
  | 2, _ => tb_m 355 (by decide +kernel) rfl
  | k + 3, h => absurd h (by omega)
theorem inTX6 : ∀ w ∈ u_ws RX6 TX6 7, w ∈ tb_G := by
  intro w hw
  obtain ⟨k, hk, rfl⟩ := List.mem_map.mp hw
  have hk := List.mem_range.mp hk
  exact match k, hk with
  | 0, _ => tb_m 411 (by decide +kernel) rfl
  | 1, _ => tb_m 413 (by decide +kernel) rfl
  | 2, _ => tb_m 415 (by decide +kernel) rfl
  | 3, _ => tb_m 417 (by decide +kernel) rfl
  | 4, _ => tb_m 419 (by decide +kernel) rfl
  | 5, _ => tb_m 421 (by decide +kernel) rfl
  | 6, _ => tb_m 423 (by decide +kernel) rfl
  | k + 7, h => absurd h (by omega)
theorem inTX7 : ∀ w ∈ u_ws RX7 TX7 10, w ∈ tb_G := by
  intro w hw
  obtain ⟨k, hk, rfl⟩ := List.mem_map.mp hw
  have hk := List.mem_range.mp hk
  exact match k, hk with
  | 0, _ => tb_m 237 (by decide +kernel) rfl
  | 1, _ => tb_m 239 (by decide +kernel) rfl
  | 2, _ => tb_m 241 (by decide +kernel) rfl
  | 3, _ => tb_m 243 (by decide +kernel) rfl
  | 4, _ => tb_m 245 (by decide +kernel) rfl
  | 5, _ => tb_m 247 (by decide +kernel) rfl
  | 6, _ => tb_m 249 (by decide +kernel) rfl
  | 7, _ => tb_m 251 (by decide +kernel) rfl
  | 8, _ => tb_m 253 (by decide +kernel) rfl
  | 9, _ => tb_m 255 (by decide +kernel) rfl
  | k + 10, h => absurd h (by omega)
theorem inTX8 : ∀ w ∈ u_ws RX8 TX8 8, w ∈ tb_G := by
  intro w hw
  obtain ⟨k, hk, rfl⟩ := List.mem_map.mp hw
  have hk := List.mem_range.mp hk
  exact match k, hk with
  | 0, _ => tb_m 201 (by decide +kernel) rfl
  | 1, _ => tb_m 203 (by decide +kernel) rfl
  | 2, _ => tb_m 205 (by decide +kernel) rfl
  | 3, _ => tb_m 207 (by decide +kernel) rfl
  | 4, _ => tb_m 209 (by decide +kernel) rfl
  | 5, _ => tb_m 211 (by decide +kernel) rfl
  | 6, _ => tb_m 213 (by decide +kernel) rfl
  | 7, _ => tb_m 215 (by decide +kernel) rfl
  | k + 8, h => absurd h (by omega)
theorem inTX9 : ∀ w ∈ u_ws RX9 TX9 4, w ∈ tb_G := by
  intro w hw
  obtain ⟨k, hk, rfl⟩ := List.mem_map.mp hw
  have hk := List.mem_range.mp hk
  exact match k, hk with
  | 0, _ => tb_m 331 (by decide +kernel) rfl
  | 1, _ => tb_m 333 (by decide +kernel) rfl
  | 2, _ => tb_m 335 (by decide +kernel) rfl
  | 3, _ => tb_m 337 (by decide +kernel) rfl
  | k + 4, h => absurd h (by omega)
theorem inTX10 : ∀ w ∈ u_ws RX10 TX10 2, w ∈ tb_G := by
  intro w hw
  obtain ⟨k, hk, rfl⟩ := List.mem_map.mp hw
  have hk := List.mem_range.mp hk
  exact match k, hk with
  | 0, _ => tb_m 267 (by decide +kernel) rfl
  | 1, _ => tb_m 269 (by decide +kernel) rfl
  | k + 2, h => absurd h (by omega)
theorem inTX11 : ∀ w ∈ u_ws RX11 TX11 12, w ∈ tb_G := by
  intro w hw
  obtain ⟨k, hk, rfl⟩ := List.mem_map.mp hw
  have hk := List.mem_range.mp hk
  exact match k, hk with
  | 0, _ => tb_m 624 (by decide +kernel) rfl
  | 1, _ => tb_m 626 (by decide +kernel) rfl
  | 2, _ => tb_m 628 (by decide +kernel) rfl
  | 3, _ => tb_m 630 (by decide +kernel) rfl
  | 4, _ => tb_m 632 (by decide +kernel) rfl
  | 5, _ => tb_m 634 (by decide +kernel) rfl
  | 6, _ => tb_m 636 (by decide +kernel) rfl
  | 7, _ => tb_m 638 (by decide +kernel) rfl
  | 8, _ => tb_m 640 (by decide +kernel) rfl
  | 9, _ => tb_m 642 (by decide +kernel) rfl
  | 10, _ => tb_m 644 (by decide +kernel) rfl
  | 11, _ => tb_m 646 (by decide +kernel) rfl
  | k + 12, h => absurd h (by omega)
theorem inTX12 : ∀ w ∈ u_ws RX12 TX12 25, w ∈ tb_G := by
  intro w hw
  obtain ⟨k, hk, rfl⟩ := List.mem_map.mp hw
  have hk := List.mem_range.mp hk
  exact match k, hk with
  | 0, _ => tb_m 1858 (by decide +kernel) rfl
  | 1, _ => tb_m 1860 (by decide +kernel) rfl
  | 2, _ => tb_m 1862 (by decide +kernel) rfl
  | 3, _ => tb_m 1864 (by decide +kernel) rfl
  | 4, _ => tb_m 1866 (by decide +kernel) rfl
  | 5, _ => tb_m 1868 (by decide +kernel) rfl
  | 6, _ => tb_m 1870 (by decide +kernel) rfl
  | 7, _ => tb_m 1872 (by decide +kernel) rfl
  | 8, _ => tb_m 1874 (by decide +kernel) rfl
  | 9, _ => tb_m 1876 (by decide +kernel) rfl
  | 10, _ => tb_m 1878 (by decide +kernel) rfl
  | 11, _ => tb_m 1880 (by decide +kernel) rfl
  | 12, _ => tb_m 1882 (by decide +kernel) rfl
  | 13, _ => tb_m 1884 (by decide +kernel) rfl
  | 14, _ => tb_m 1886 (by decide +kernel) rfl
  | 15, _ => tb_m 1888 (by decide +kernel) rfl
  | 16, _ => tb_m 1890 (by decide +kernel) rfl
  | 17, _ => tb_m 1892 (by decide +kernel) rfl
  | 18, _ => tb_m 1894 (by decide +kernel) rfl
  | 19, _ => tb_m 1896 (by decide +kernel) rfl
  | 20, _ => tb_m 1898 (by decide +kernel) rfl
  | 21, _ => tb_m 1900 (by decide +kernel) rfl
  | 22, _ => tb_m 1902 (by decide +kernel) rfl
  | 23, _ => tb_m 1904 (by decide +kernel) rfl
  | 24, _ => tb_m 1906 (by decide +kernel) rfl
  | k + 25, h => absurd h (by omega)
def tb_D_init : List (Nat × Instr × Nat) := [(0, .aload_n 0, 1),
  (1, .invokespecial 1, 3),
  (4, .aload_n 0, 1),
  (5, .new 7, 3),
  (8, .dup, 1),
  (9, .invokespecial 9, 3),
  (12, .putfield 10, 3),
  (15, .aload_n 0, 1),
  (16, .new 16, 3),
  (19, .dup, 1),
  (20, .invokespecial 18, 3),
  (23, .putfield 19, 3),
  (26, .aload_n 0, 1),
  (27, .new 23, 3),
  (30, .dup, 1),
  (31, .invokespecial 25, 3),
  (34, .putfield 26, 3),
  (37, .aload_n 0, 1),
  (38, .new 30, 3),
  (41, .dup, 1),
  (42, .invokespecial 32, 3),
  (45, .putfield 33, 3),
  (48, .aload_n 0, 1),
  (49, .iconst 2, 1),
  (50, .anewarray 7, 3),
  (53, .putfield 37, 3),
  (56, .aload_n 0, 1),
  (57, .new 41, 3),
  (60, .dup, 1),
  (61, .invokespecial 43, 3),
  (64, .putfield 44, 3),
  (67, .aload_n 0, 1),
  (68, .new 48, 3),
  (71, .dup, 1),
  (72, .invokespecial 50, 3),
  (75, .putfield 51, 3),
  (78, .aload_n 0, 1),
  (79, .new 55, 3),
  (82, .dup, 1),
  (83, .invokespecial 57, 3),
  (86, .putfield 58, 3),
  (89, .aload_n 0, 1),
  (90, .new 62, 3),
  (93, .dup, 1),
  (94, .invokespecial 64, 3),
  (97, .putfield 65, 3),
  (100, .aload_n 0, 1),
  (101, .new 69, 3),
  (104, .dup, 1),
  (105, .invokespecial 71, 3),
  (108, .putfield 72, 3),
  (111, .aload_n 0, 1),
  (112, .new 76, 3),
  (115, .dup, 1),
  (116, .invokespecial 78, 3),
  (119, .putfield 79, 3),
  (122, .aload_n 0, 1),
  (123, .invokestatic 83, 3),
  (126, .putfield 87, 3),
  (129, .return_, 1)]
def mi_D_init : mi_T := ("DataflowLab", ({ cls := "DataflowLab", name := "<init>", desc := "()V" } : MethodName), prog_1_method_1_code, 1, (Option.none : Option FieldType), [], tb_D_init)
theorem mo_D_init : mi_ok mi_D_init := by
  show ∀ q ∈ tb_D_init, decode prog_1_method_1_code q.1 = .ok q.2
  decide +kernel
theorem mw_D_init : mi_w mi_D_init 0 := ⟨tb_m 175 (by decide +kernel) (by decide +kernel), tb_m 144 (by decide +kernel) rfl, ⟨by decide +kernel, by decide +kernel, by decide +kernel⟩, by decide +kernel⟩
theorem mv_D_init : Cond.instanceMethod (mi_y mi_D_init) ∈ tb_G := tb_m 174 (by decide +kernel) rfl
def tb_D_appendText : List (Nat × Instr × Nat) := [(0, .aload_n 0, 1),
  (1, .getfield 19, 3),
  (4, .invokevirtual 90, 3),
  (7, .iconst 4, 1),
  (8, .iadd, 1),
  (9, .sipush 700, 3),
  (12, .if_icmp .le 13, 3),
  (15, .new 94, 3),
  (18, .dup, 1),
  (19, .ldc 96, 2),
  (21, .invokespecial 98, 3),
  (24, .athrow, 1),
  (25, .bipush 24, 2),
  (27, .istore_n 2, 1),
  (28, .iload_n 2, 1),
  (29, .ifCond .lt 23, 3),
  (32, .aload_n 0, 1),
  (33, .getfield 19, 3),
  (36, .iload_n 1, 1),
  (37, .iload_n 2, 1),
  (38, .iushr, 1),
  (39, .sipush 255, 3),
  (42, .iand, 1),
  (43, .invokevirtual 101, 3),
  (46, .iinc 2 (-8), 3),
  (49, .goto (-21), 3),
  (52, .aload_n 0, 1),
  (53, .getfield 19, 3),
  (56, .invokevirtual 90, 3),
  (59, .ireturn, 1)]
def mi_D_appendText : mi_T := ("DataflowLab", ({ cls := "DataflowLab", name := "appendText", desc := "(I)I" } : MethodName), prog_1_method_2_code, 3, (Option.some FieldType.int), [], tb_D_appendText)
theorem mo_D_appendText : mi_ok mi_D_appendText := by
  show ∀ q ∈ tb_D_appendText, decode prog_1_method_2_code q.1 = .ok q.2
  decide +kernel
theorem mw_D_appendText : mi_w mi_D_appendText 1 := ⟨tb_m 1149 (by decide +kernel) (by decide +kernel), tb_m 144 (by decide +kernel) rfl, ⟨by decide +kernel, by decide +kernel, by decide +kernel⟩, by decide +kernel⟩
theorem mv_D_appendText : mi_wV mi_D_appendText := ⟨tb_m 1147 (by decide +kernel) rfl, tb_m 1148 (by decide +kernel) rfl⟩
def tb_D_truncateText : List (Nat × Instr × Nat) := [(0, .iload_n 1, 1),
  (1, .ifCond .lt 14, 3),
  (4, .iload_n 1, 1),
  (5, .aload_n 0, 1),
  (6, .getfield 19, 3),
  (9, .invokevirtual 90, 3),
  (12, .if_icmp .le 13, 3),
  (15, .new 105, 3),
  (18, .dup, 1),
  (19, .ldc 107, 2),
  (21, .invokespecial 109, 3),
  (24, .athrow, 1),
  (25, .aload_n 0, 1),
  (26, .getfield 19, 3),
  (29, .iload_n 1, 1),
  (30, .invokevirtual 110, 3),
  (33, .iload_n 1, 1),
  (34, .ireturn, 1)]
def mi_D_truncateText : mi_T := ("DataflowLab", ({ cls := "DataflowLab", name := "truncateText", desc := "(I)I" } : MethodName), prog_1_method_3_code, 2, (Option.some FieldType.int), [], tb_D_truncateText)
theorem mo_D_truncateText : mi_ok mi_D_truncateText := by
  show ∀ q ∈ tb_D_truncateText, decode prog_1_method_3_code q.1 = .ok q.2
  decide +kernel
theorem mw_D_truncateText : mi_w mi_D_truncateText 1 := ⟨tb_m 1230 (by decide +kernel) (by decide +kernel), tb_m 144 (by decide +kernel) rfl, ⟨by decide +kernel, by decide +kernel, by decide +kernel⟩, by decide +kernel⟩
theorem mv_D_truncateText : mi_wV mi_D_truncateText := ⟨tb_m 1228 (by decide +kernel) rfl, tb_m 1229 (by decide +kernel) rfl⟩
def tb_D_loadProgram : List (Nat × Instr × Nat) := [(0, .aload_n 0, 1),
  (1, .getfield 19, 3),
  (4, .aload_n 0, 1),
  (5, .getfield 10, 3),
  (8, .invokevirtual 113, 3),
  (11, .istore_n 1, 1),
  (12, .aload_n 0, 1),
  (13, .getfield 19, 3),
  (16, .invokevirtual 117, 3),
  (19, .iload_n 1, 1),
  (20, .ifCond .ne 5, 3),
  (23, .iconst (-1), 1),
  (24, .ireturn, 1),
  (25, .aload_n 0, 1),
  (26, .aload_n 0, 1),
  (27, .getfield 10, 3),
  (30, .invokevirtual 120, 3),
  (33, .aload_n 0, 1),
  (34, .getfield 87, 3),
  (37, .getfield 124, 3),
  (40, .ireturn, 1)]
def mi_D_loadProgram : mi_T := ("DataflowLab", ({ cls := "DataflowLab", name := "loadProgram", desc := "()I" } : MethodName), prog_1_method_4_code, 2, (Option.some FieldType.int), [], tb_D_loadProgram)
theorem mo_D_loadProgram : mi_ok mi_D_loadProgram := by
  show ∀ q ∈ tb_D_loadProgram, decode prog_1_method_4_code q.1 = .ok q.2
  decide +kernel
theorem mw_D_loadProgram : mi_w mi_D_loadProgram 0 := ⟨tb_m 653 (by decide +kernel) (by decide +kernel), tb_m 144 (by decide +kernel) rfl, ⟨by decide +kernel, by decide +kernel, by decide +kernel⟩, by decide +kernel⟩
theorem mv_D_loadProgram : mi_wV mi_D_loadProgram := ⟨tb_m 651 (by decide +kernel) rfl, tb_m 652 (by decide +kernel) rfl⟩
def tb_D_errorCode : List (Nat × Instr × Nat) := [(0, .aload_n 0, 1),
  (1, .getfield 19, 3),
  (4, .getfield 128, 3),
  (7, .ireturn, 1)]
def mi_D_errorCode : mi_T := ("DataflowLab", ({ cls := "DataflowLab", name := "errorCode", desc := "()I" } : MethodName), prog_1_method_5_code, 1, (Option.some FieldType.int), [], tb_D_errorCode)
theorem mo_D_errorCode : mi_ok mi_D_errorCode := by
  show ∀ q ∈ tb_D_errorCode, decode prog_1_method_5_code q.1 = .ok q.2
  decide +kernel
theorem mw_D_errorCode : mi_w mi_D_errorCode 0 := ⟨tb_m 677 (by decide +kernel) (by decide +kernel), tb_m 144 (by decide +kernel) rfl, ⟨by decide +kernel, by decide +kernel, by decide +kernel⟩, by decide +kernel⟩
theorem mv_D_errorCode : mi_wV mi_D_errorCode := ⟨tb_m 675 (by decide +kernel) rfl, tb_m 676 (by decide +kernel) rfl⟩
def tb_D_errorPosition : List (Nat × Instr × Nat) := [(0, .aload_n 0, 1),
  (1, .getfield 19, 3),
  (4, .getfield 131, 3),
  (7, .ireturn, 1)]
def mi_D_errorPosition : mi_T := ("DataflowLab", ({ cls := "DataflowLab", name := "errorPosition", desc := "()I" } : MethodName), prog_1_method_6_code, 1, (Option.some FieldType.int), [], tb_D_errorPosition)
theorem mo_D_errorPosition : mi_ok mi_D_errorPosition := by
  show ∀ q ∈ tb_D_errorPosition, decode prog_1_method_6_code q.1 = .ok q.2
  decide +kernel
theorem mw_D_errorPosition : mi_w mi_D_errorPosition 0 := ⟨tb_m 681 (by decide +kernel) (by decide +kernel), tb_m 144 (by decide +kernel) rfl, ⟨by decide +kernel, by decide +kernel, by decide +kernel⟩, by decide +kernel⟩
theorem mv_D_errorPosition : mi_wV mi_D_errorPosition := ⟨tb_m 679 (by decide +kernel) rfl, tb_m 680 (by decide +kernel) rfl⟩
def tb_D_blockCount : List (Nat × Instr × Nat) := [(0, .aload_n 0, 1),
  (1, .getfield 87, 3),
  (4, .getfield 124, 3),
  (7, .ireturn, 1)]
def mi_D_blockCount : mi_T := ("DataflowLab", ({ cls := "DataflowLab", name := "blockCount", desc := "()I" } : MethodName), prog_1_method_7_code, 1, (Option.some FieldType.int), [], tb_D_blockCount)
theorem mo_D_blockCount : mi_ok mi_D_blockCount := by
  show ∀ q ∈ tb_D_blockCount, decode prog_1_method_7_code q.1 = .ok q.2
  decide +kernel
theorem mw_D_blockCount : mi_w mi_D_blockCount 0 := ⟨tb_m 685 (by decide +kernel) (by decide +kernel), tb_m 144 (by decide +kernel) rfl, ⟨by decide +kernel, by decide +kernel, by decide +kernel⟩, by decide +kernel⟩
theorem mv_D_blockCount : mi_wV mi_D_blockCount := ⟨tb_m 683 (by decide +kernel) rfl, tb_m 684 (by decide +kernel) rfl⟩
def tb_D_instructionCount : List (Nat × Instr × Nat) := [(0, .aload_n 0, 1),
  (1, .getfield 87, 3),
  (4, .getfield 134, 3),
  (7, .ireturn, 1)]
def mi_D_instructionCount : mi_T := ("DataflowLab", ({ cls := "DataflowLab", name := "instructionCount", desc := "()I" } : MethodName), prog_1_method_8_code, 1, (Option.some FieldType.int), [], tb_D_instructionCount)
theorem mo_D_instructionCount : mi_ok mi_D_instructionCount := by
  show ∀ q ∈ tb_D_instructionCount, decode prog_1_method_8_code q.1 = .ok q.2
  decide +kernel
theorem mw_D_instructionCount : mi_w mi_D_instructionCount 0 := ⟨tb_m 689 (by decide +kernel) (by decide +kernel), tb_m 144 (by decide +kernel) rfl, ⟨by decide +kernel, by decide +kernel, by decide +kernel⟩, by decide +kernel⟩
theorem mv_D_instructionCount : mi_wV mi_D_instructionCount := ⟨tb_m 687 (by decide +kernel) rfl, tb_m 688 (by decide +kernel) rfl⟩
def tb_D_instructionsIn : List (Nat × Instr × Nat) := [(0, .aload_n 0, 1),
  (1, .iload_n 1, 1),
  (2, .invokevirtual 137, 3),
  (5, .aload_n 0, 1),
  (6, .getfield 87, 3),
  (9, .iload_n 1, 1),
  (10, .invokevirtual 140, 3),
  (13, .ireturn, 1)]
def mi_D_instructionsIn : mi_T := ("DataflowLab", ({ cls := "DataflowLab", name := "instructionsIn", desc := "(I)I" } : MethodName), prog_1_method_9_code, 2, (Option.some FieldType.int), [], tb_D_instructionsIn)
theorem mo_D_instructionsIn : mi_ok mi_D_instructionsIn := by
  show ∀ q ∈ tb_D_instructionsIn, decode prog_1_method_9_code q.1 = .ok q.2
  decide +kernel
theorem mw_D_instructionsIn : mi_w mi_D_instructionsIn 1 := ⟨tb_m 1258 (by decide +kernel) (by decide +kernel), tb_m 144 (by decide +kernel) rfl, ⟨by decide +kernel, by decide +kernel, by decide +kernel⟩, by decide +kernel⟩
theorem mv_D_instructionsIn : mi_wV mi_D_instructionsIn := ⟨tb_m 1256 (by decide +kernel) rfl, tb_m 1257 (by decide +kernel) rfl⟩
def tb_D_blockOf : List (Nat × Instr × Nat) := [(0, .aload_n 0, 1),
  (1, .iload_n 1, 1),
  (2, .invokevirtual 144, 3),
  (5, .aload_n 0, 1),
  (6, .getfield 87, 3),
  (9, .iload_n 1, 1),
  (10, .invokevirtual 147, 3),
  (13, .ireturn, 1)]
def mi_D_blockOf : mi_T := ("DataflowLab", ({ cls := "DataflowLab", name := "blockOf", desc := "(I)I" } : MethodName), prog_1_method_10_code, 2, (Option.some FieldType.int), [], tb_D_blockOf)
theorem mo_D_blockOf : mi_ok mi_D_blockOf := by
  show ∀ q ∈ tb_D_blockOf, decode prog_1_method_10_code q.1 = .ok q.2
  decide +kernel
theorem mw_D_blockOf : mi_w mi_D_blockOf 1 := ⟨tb_m 1289 (by decide +kernel) (by decide +kernel), tb_m 144 (by decide +kernel) rfl, ⟨by decide +kernel, by decide +kernel, by decide +kernel⟩, by decide +kernel⟩
theorem mv_D_blockOf : mi_wV mi_D_blockOf := ⟨tb_m 1287 (by decide +kernel) rfl, tb_m 1288 (by decide +kernel) rfl⟩
def tb_D_kindOf : List (Nat × Instr × Nat) := [(0, .aload_n 0, 1),
  (1, .iload_n 1, 1),
  (2, .invokevirtual 144, 3),
  (5, .aload_n 0, 1),
  (6, .getfield 87, 3),
  (9, .iload_n 1, 1),
  (10, .invokevirtual 150, 3),
  (13, .ireturn, 1)]
def mi_D_kindOf : mi_T := ("DataflowLab", ({ cls := "DataflowLab", name := "kindOf", desc := "(I)I" } : MethodName), prog_1_method_11_code, 2, (Option.some FieldType.int), [], tb_D_kindOf)
theorem mo_D_kindOf : mi_ok mi_D_kindOf := by
  show ∀ q ∈ tb_D_kindOf, decode prog_1_method_11_code q.1 = .ok q.2
  decide +kernel
theorem mw_D_kindOf : mi_w mi_D_kindOf 1 := ⟨tb_m 1302 (by decide +kernel) (by decide +kernel), tb_m 144 (by decide +kernel) rfl, ⟨by decide +kernel, by decide +kernel, by decide +kernel⟩, by decide +kernel⟩
theorem mv_D_kindOf : mi_wV mi_D_kindOf := ⟨tb_m 1300 (by decide +kernel) rfl, tb_m 1301 (by decide +kernel) rfl⟩
def tb_D_successor : List (Nat × Instr × Nat) := [(0, .aload_n 0, 1),
  (1, .iload_n 1, 1),
  (2, .invokevirtual 137, 3),
  (5, .iload_n 2, 1),
  (6, .ifCond .lt 15, 3),
  (9, .iload_n 2, 1),
  (10, .aload_n 0, 1),
  (11, .getfield 87, 3),
  (14, .iload_n 1, 1),
  (15, .invokevirtual 153, 3),
  (18, .if_icmp .lt 13, 3),
  (21, .new 156, 3),
  (24, .dup, 1),
  (25, .ldc 158, 2),
  (27, .invokespecial 160, 3),
  (30, .athrow, 1),
  (31, .aload_n 0, 1),
  (32, .getfield 87, 3),
  (35, .iload_n 1, 1),
  (36, .iload_n 2, 1),
  (37, .invokevirtual 161, 3),
  (40, .ireturn, 1)]
def mi_D_successor : mi_T := ("DataflowLab", ({ cls := "DataflowLab", name := "successor", desc := "(II)I" } : MethodName), prog_1_method_12_code, 3, (Option.some FieldType.int), [], tb_D_successor)
theorem mo_D_successor : mi_ok mi_D_successor := by
  show ∀ q ∈ tb_D_successor, decode prog_1_method_12_code q.1 = .ok q.2
  decide +kernel
theorem mw_D_successor : mi_w mi_D_successor 2 := ⟨tb_m 1310 (by decide +kernel) (by decide +kernel), tb_m 144 (by decide +kernel) rfl, ⟨by decide +kernel, by decide +kernel, by decide +kernel⟩, by decide +kernel⟩
theorem mv_D_successor : mi_wV mi_D_successor := ⟨tb_m 1308 (by decide +kernel) rfl, tb_m 1309 (by decide +kernel) rfl⟩
def tb_D_predecessors : List (Nat × Instr × Nat) := [(0, .aload_n 0, 1),
  (1, .iload_n 1, 1),
  (2, .invokevirtual 137, 3),
  (5, .aload_n 0, 1),
  (6, .invokevirtual 165, 3),
  (9, .iload_n 1, 1),
  (10, .invokevirtual 169, 3),
  (13, .invokestatic 172, 3),
  (16, .ireturn, 1)]
def mi_D_predecessors : mi_T := ("DataflowLab", ({ cls := "DataflowLab", name := "predecessors", desc := "(I)I" } : MethodName), prog_1_method_13_code, 2, (Option.some FieldType.int), [], tb_D_predecessors)
theorem mo_D_predecessors : mi_ok mi_D_predecessors := by
  show ∀ q ∈ tb_D_predecessors, decode prog_1_method_13_code q.1 = .ok q.2
  decide +kernel
theorem mw_D_predecessors : mi_w mi_D_predecessors 1 := ⟨tb_m 1335 (by decide +kernel) (by decide +kernel), tb_m 144 (by decide +kernel) rfl, ⟨by decide +kernel, by decide +kernel, by decide +kernel⟩, by decide +kernel⟩
theorem mv_D_predecessors : mi_wV mi_D_predecessors := ⟨tb_m 1333 (by decide +kernel) rfl, tb_m 1334 (by decide +kernel) rfl⟩
def tb_D_isReachable : List (Nat × Instr × Nat) := [(0, .aload_n 0, 1),
  (1, .iload_n 1, 1),
  (2, .invokevirtual 137, 3),
  (5, .aload_n 0, 1),
  (6, .invokevirtual 165, 3),
  (9, .iload_n 1, 1),
  (10, .invokevirtual 177, 3),
  (13, .ireturn, 1)]
def mi_D_isReachable : mi_T := ("DataflowLab", ({ cls := "DataflowLab", name := "isReachable", desc := "(I)Z" } : MethodName), prog_1_method_14_code, 2, (Option.some FieldType.boolean), [], tb_D_isReachable)
theorem mo_D_isReachable : mi_ok mi_D_isReachable := by
  show ∀ q ∈ tb_D_isReachable, decode prog_1_method_14_code q.1 = .ok q.2
  decide +kernel
theorem mw_D_isReachable : mi_w mi_D_isReachable 1 := ⟨tb_m 1347 (by decide +kernel) (by decide +kernel), tb_m 144 (by decide +kernel) rfl, ⟨by decide +kernel, by decide +kernel, by decide +kernel⟩, by decide +kernel⟩
theorem mv_D_isReachable : mi_wV mi_D_isReachable := ⟨tb_m 1345 (by decide +kernel) rfl, tb_m 1346 (by decide +kernel) rfl⟩
def tb_D_distanceTo : List (Nat × Instr × Nat) := [(0, .aload_n 0, 1),
  (1, .iload_n 1, 1),
  (2, .invokevirtual 137, 3),
  (5, .aload_n 0, 1),
  (6, .invokevirtual 165, 3),
  (9, .iload_n 1, 1),
  (10, .invokevirtual 181, 3),
  (13, .ireturn, 1)]
def mi_D_distanceTo : mi_T := ("DataflowLab", ({ cls := "DataflowLab", name := "distanceTo", desc := "(I)I" } : MethodName), prog_1_method_15_code, 2, (Option.some FieldType.int), [], tb_D_distanceTo)
theorem mo_D_distanceTo : mi_ok mi_D_distanceTo := by
  show ∀ q ∈ tb_D_distanceTo, decode prog_1_method_15_code q.1 = .ok q.2
  decide +kernel
theorem mw_D_distanceTo : mi_w mi_D_distanceTo 1 := ⟨tb_m 1355 (by decide +kernel) (by decide +kernel), tb_m 144 (by decide +kernel) rfl, ⟨by decide +kernel, by decide +kernel, by decide +kernel⟩, by decide +kernel⟩
theorem mv_D_distanceTo : mi_wV mi_D_distanceTo := ⟨tb_m 1353 (by decide +kernel) rfl, tb_m 1354 (by decide +kernel) rfl⟩
def tb_D_reaches : List (Nat × Instr × Nat) := [(0, .aload_n 0, 1),
  (1, .iload_n 1, 1),
  (2, .invokevirtual 144, 3),
  (5, .aload_n 0, 1),
  (6, .iload_n 2, 1),
  (7, .invokevirtual 137, 3),
  (10, .aload_n 0, 1),
  (11, .invokevirtual 184, 3),
  (14, .aload_n 0, 1),
  (15, .getfield 87, 3),
  (18, .iload_n 2, 1),
  (19, .invokevirtual 188, 3),
  (22, .invokevirtual 191, 3),
  (25, .iload_n 1, 1),
  (26, .invokestatic 195, 3),
  (29, .ireturn, 1)]
def mi_D_reaches : mi_T := ("DataflowLab", ({ cls := "DataflowLab", name := "reaches", desc := "(II)Z" } : MethodName), prog_1_method_16_code, 3, (Option.some FieldType.boolean), [], tb_D_reaches)
theorem mo_D_reaches : mi_ok mi_D_reaches := by
  show ∀ q ∈ tb_D_reaches, decode prog_1_method_16_code q.1 = .ok q.2
  decide +kernel
theorem mw_D_reaches : mi_w mi_D_reaches 2 := ⟨tb_m 1366 (by decide +kernel) (by decide +kernel), tb_m 144 (by decide +kernel) rfl, ⟨by decide +kernel, by decide +kernel, by decide +kernel⟩, by decide +kernel⟩
theorem mv_D_reaches : mi_wV mi_D_reaches := ⟨tb_m 1364 (by decide +kernel) rfl, tb_m 1365 (by decide +kernel) rfl⟩
def tb_D_reachingDefinitions : List (Nat × Instr × Nat) := [(0, .aload_n 0, 1),
  (1, .iload_n 1, 1),
  (2, .invokevirtual 137, 3),
  (5, .iload_n 2, 1),
  (6, .invokestatic 199, 3),
  (9, .aload_n 0, 1),
  (10, .invokevirtual 184, 3),
  (13, .aload_n 0, 1),
  (14, .getfield 87, 3),
  (17, .iload_n 1, 1),
  (18, .invokevirtual 188, 3),
  (21, .iload_n 2, 1),
  (22, .invokevirtual 202, 3),
  (25, .invokestatic 205, 3),
  (28, .ireturn, 1)]
def mi_D_reachingDefinitions : mi_T := ("DataflowLab", ({ cls := "DataflowLab", name := "reachingDefinitions", desc := "(II)I" } : MethodName), prog_1_method_17_code, 3, (Option.some FieldType.int), [], tb_D_reachingDefinitions)
theorem mo_D_reachingDefinitions : mi_ok mi_D_reachingDefinitions := by
  show ∀ q ∈ tb_D_reachingDefinitions, decode prog_1_method_17_code q.1 = .ok q.2
  decide +kernel
theorem mw_D_reachingDefinitions : mi_w mi_D_reachingDefinitions 2 := ⟨tb_m 1379 (by decide +kernel) (by decide +kernel), tb_m 144 (by decide +kernel) rfl, ⟨by decide +kernel, by decide +kernel, by decide +kernel⟩, by decide +kernel⟩
theorem mv_D_reachingDefinitions : mi_wV mi_D_reachingDefinitions := ⟨tb_m 1377 (by decide +kernel) rfl, tb_m 1378 (by decide +kernel) rfl⟩
def tb_D_isInitialReaching : List (Nat × Instr × Nat) := [(0, .aload_n 0, 1),
  (1, .iload_n 1, 1),
  (2, .invokevirtual 137, 3),
  (5, .iload_n 2, 1),
  (6, .invokestatic 199, 3),
  (9, .aload_n 0, 1),
  (10, .invokevirtual 184, 3),
  (13, .aload_n 0, 1),
  (14, .getfield 87, 3),
  (17, .iload_n 1, 1),
  (18, .invokevirtual 188, 3),
  (21, .invokevirtual 210, 3),
  (24, .i2l, 1),
  (25, .iload_n 2, 1),
  (26, .invokestatic 195, 3),
  (29, .ireturn, 1)]
def mi_D_isInitialReaching : mi_T := ("DataflowLab", ({ cls := "DataflowLab", name := "isInitialReaching", desc := "(II)Z" } : MethodName), prog_1_method_18_code, 3, (Option.some FieldType.boolean), [], tb_D_isInitialReaching)
theorem mo_D_isInitialReaching : mi_ok mi_D_isInitialReaching := by
  show ∀ q ∈ tb_D_isInitialReaching, decode prog_1_method_18_code q.1 = .ok q.2
  decide +kernel
theorem mw_D_isInitialReaching : mi_w mi_D_isInitialReaching 2 := ⟨tb_m 1400 (by decide +kernel) (by decide +kernel), tb_m 144 (by decide +kernel) rfl, ⟨by decide +kernel, by decide +kernel, by decide +kernel⟩, by decide +kernel⟩
theorem mv_D_isInitialReaching : mi_wV mi_D_isInitialReaching := ⟨tb_m 1398 (by decide +kernel) rfl, tb_m 1399 (by decide +kernel) rfl⟩
def tb_D_usesOf : List (Nat × Instr × Nat) := [(0, .aload_n 0, 1),
  (1, .iload_n 1, 1),
  (2, .invokevirtual 144, 3),
  (5, .aload_n 0, 1),
  (6, .invokevirtual 184, 3),
  (9, .aload_n 0, 1),
  (10, .getfield 87, 3),
  (13, .iload_n 1, 1),
  (14, .invokevirtual 213, 3),
  (17, .ireturn, 1)]
def mi_D_usesOf : mi_T := ("DataflowLab", ({ cls := "DataflowLab", name := "usesOf", desc := "(I)I" } : MethodName), prog_1_method_19_code, 2, (Option.some FieldType.int), [], tb_D_usesOf)
theorem mo_D_usesOf : mi_ok mi_D_usesOf := by
  show ∀ q ∈ tb_D_usesOf, decode prog_1_method_19_code q.1 = .ok q.2
  decide +kernel
theorem mw_D_usesOf : mi_w mi_D_usesOf 1 := ⟨tb_m 1408 (by decide +kernel) (by decide +kernel), tb_m 144 (by decide +kernel) rfl, ⟨by decide +kernel, by decide +kernel, by decide +kernel⟩, by decide +kernel⟩
theorem mv_D_usesOf : mi_wV mi_D_usesOf := ⟨tb_m 1406 (by decide +kernel) rfl, tb_m 1407 (by decide +kernel) rfl⟩
def tb_D_onlyDefinition : List (Nat × Instr × Nat) := [(0, .aload_n 0, 1),
  (1, .iload_n 1, 1),
  (2, .invokevirtual 144, 3),
  (5, .aload_n 0, 1),
  (6, .getfield 87, 3),
  (9, .iload_n 1, 1),
  (10, .iload_n 2, 1),
  (11, .invokevirtual 217, 3),
  (14, .istore_n 3, 1),
  (15, .iload_n 3, 1),
  (16, .iconst (-1), 1),
  (17, .if_icmp .ne 13, 3),
  (20, .new 156, 3),
  (23, .dup, 1),
  (24, .ldc 220, 2),
  (26, .invokespecial 160, 3),
  (29, .athrow, 1),
  (30, .aload_n 0, 1),
  (31, .invokevirtual 184, 3),
  (34, .iload_n 1, 1),
  (35, .iload_n 3, 1),
  (36, .invokevirtual 222, 3),
  (39, .ireturn, 1)]
def mi_D_onlyDefinition : mi_T := ("DataflowLab", ({ cls := "DataflowLab", name := "onlyDefinition", desc := "(II)I" } : MethodName), prog_1_method_20_code, 4, (Option.some FieldType.int), [], tb_D_onlyDefinition)
theorem mo_D_onlyDefinition : mi_ok mi_D_onlyDefinition := by
  show ∀ q ∈ tb_D_onlyDefinition, decode prog_1_method_20_code q.1 = .ok q.2
  decide +kernel
theorem mw_D_onlyDefinition : mi_w mi_D_onlyDefinition 2 := ⟨tb_m 1421 (by decide +kernel) (by decide +kernel), tb_m 144 (by decide +kernel) rfl, ⟨by decide +kernel, by decide +kernel, by decide +kernel⟩, by decide +kernel⟩
theorem mv_D_onlyDefinition : mi_wV mi_D_onlyDefinition := ⟨tb_m 1419 (by decide +kernel) rfl, tb_m 1420 (by decide +kernel) rfl⟩
def tb_D_isLiveIn : List (Nat × Instr × Nat) := [(0, .aload_n 0, 1),
  (1, .iload_n 1, 1),
  (2, .invokevirtual 137, 3),
  (5, .iload_n 2, 1),
  (6, .invokestatic 199, 3),
  (9, .aload_n 0, 1),
  (10, .invokevirtual 225, 3),
  (13, .aload_n 0, 1),
  (14, .getfield 87, 3),
  (17, .iload_n 1, 1),
  (18, .invokevirtual 188, 3),
  (21, .invokevirtual 229, 3),
  (24, .i2l, 1),
  (25, .iload_n 2, 1),
  (26, .invokestatic 195, 3),
  (29, .ireturn, 1)]
def mi_D_isLiveIn : mi_T := ("DataflowLab", ({ cls := "DataflowLab", name := "isLiveIn", desc := "(II)Z" } : MethodName), prog_1_method_21_code, 3, (Option.some FieldType.boolean), [], tb_D_isLiveIn)
theorem mo_D_isLiveIn : mi_ok mi_D_isLiveIn := by
  show ∀ q ∈ tb_D_isLiveIn, decode prog_1_method_21_code q.1 = .ok q.2
  decide +kernel
theorem mw_D_isLiveIn : mi_w mi_D_isLiveIn 2 := ⟨tb_m 1436 (by decide +kernel) (by decide +kernel), tb_m 144 (by decide +kernel) rfl, ⟨by decide +kernel, by decide +kernel, by decide +kernel⟩, by decide +kernel⟩
theorem mv_D_isLiveIn : mi_wV mi_D_isLiveIn := ⟨tb_m 1434 (by decide +kernel) rfl, tb_m 1435 (by decide +kernel) rfl⟩
def tb_D_isLiveOut : List (Nat × Instr × Nat) := [(0, .aload_n 0, 1),
  (1, .iload_n 1, 1),
  (2, .invokevirtual 137, 3),
  (5, .iload_n 2, 1),
  (6, .invokestatic 199, 3),
  (9, .aload_n 0, 1),
  (10, .invokevirtual 225, 3),
  (13, .aload_n 0, 1),
  (14, .getfield 87, 3),
  (17, .iload_n 1, 1),
  (18, .invokevirtual 232, 3),
  (21, .invokevirtual 235, 3),
  (24, .i2l, 1),
  (25, .iload_n 2, 1),
  (26, .invokestatic 195, 3),
  (29, .ireturn, 1)]
def mi_D_isLiveOut : mi_T := ("DataflowLab", ({ cls := "DataflowLab", name := "isLiveOut", desc := "(II)Z" } : MethodName), prog_1_method_22_code, 3, (Option.some FieldType.boolean), [], tb_D_isLiveOut)
theorem mo_D_isLiveOut : mi_ok mi_D_isLiveOut := by
  show ∀ q ∈ tb_D_isLiveOut, decode prog_1_method_22_code q.1 = .ok q.2
  decide +kernel
theorem mw_D_isLiveOut : mi_w mi_D_isLiveOut 2 := ⟨tb_m 1447 (by decide +kernel) (by decide +kernel), tb_m 144 (by decide +kernel) rfl, ⟨by decide +kernel, by decide +kernel, by decide +kernel⟩, by decide +kernel⟩
theorem mv_D_isLiveOut : mi_wV mi_D_isLiveOut := ⟨tb_m 1445 (by decide +kernel) rfl, tb_m 1446 (by decide +kernel) rfl⟩
def tb_D_liveBefore : List (Nat × Instr × Nat) := [(0, .aload_n 0, 1),
  (1, .iload_n 1, 1),
  (2, .invokevirtual 144, 3),
  (5, .aload_n 0, 1),
  (6, .invokevirtual 225, 3),
  (9, .iload_n 1, 1),
  (10, .invokevirtual 229, 3),
  (13, .invokestatic 172, 3),
  (16, .ireturn, 1)]
def mi_D_liveBefore : mi_T := ("DataflowLab", ({ cls := "DataflowLab", name := "liveBefore", desc := "(I)I" } : MethodName), prog_1_method_23_code, 2, (Option.some FieldType.int), [], tb_D_liveBefore)
theorem mo_D_liveBefore : mi_ok mi_D_liveBefore := by
  show ∀ q ∈ tb_D_liveBefore, decode prog_1_method_23_code q.1 = .ok q.2
  decide +kernel
theorem mw_D_liveBefore : mi_w mi_D_liveBefore 1 := ⟨tb_m 1459 (by decide +kernel) (by decide +kernel), tb_m 144 (by decide +kernel) rfl, ⟨by decide +kernel, by decide +kernel, by decide +kernel⟩, by decide +kernel⟩
theorem mv_D_liveBefore : mi_wV mi_D_liveBefore := ⟨tb_m 1457 (by decide +kernel) rfl, tb_m 1458 (by decide +kernel) rfl⟩
def tb_D_isDead : List (Nat × Instr × Nat) := [(0, .aload_n 0, 1),
  (1, .iload_n 1, 1),
  (2, .invokevirtual 144, 3),
  (5, .aload_n 0, 1),
  (6, .invokevirtual 225, 3),
  (9, .aload_n 0, 1),
  (10, .getfield 87, 3),
  (13, .iload_n 1, 1),
  (14, .invokevirtual 238, 3),
  (17, .ireturn, 1)]
def mi_D_isDead : mi_T := ("DataflowLab", ({ cls := "DataflowLab", name := "isDead", desc := "(I)Z" } : MethodName), prog_1_method_24_code, 2, (Option.some FieldType.boolean), [], tb_D_isDead)
theorem mo_D_isDead : mi_ok mi_D_isDead := by
  show ∀ q ∈ tb_D_isDead, decode prog_1_method_24_code q.1 = .ok q.2
  decide +kernel
theorem mw_D_isDead : mi_w mi_D_isDead 1 := ⟨tb_m 1466 (by decide +kernel) (by decide +kernel), tb_m 144 (by decide +kernel) rfl, ⟨by decide +kernel, by decide +kernel, by decide +kernel⟩, by decide +kernel⟩
theorem mv_D_isDead : mi_wV mi_D_isDead := ⟨tb_m 1464 (by decide +kernel) rfl, tb_m 1465 (by decide +kernel) rfl⟩
def tb_D_deadDefinitions : List (Nat × Instr × Nat) := [(0, .aload_n 0, 1),
  (1, .invokevirtual 225, 3),
  (4, .aload_n 0, 1),
  (5, .getfield 87, 3),
  (8, .invokevirtual 242, 3),
  (11, .ireturn, 1)]
def mi_D_deadDefinitions : mi_T := ("DataflowLab", ({ cls := "DataflowLab", name := "deadDefinitions", desc := "()I" } : MethodName), prog_1_method_25_code, 1, (Option.some FieldType.int), [], tb_D_deadDefinitions)
theorem mo_D_deadDefinitions : mi_ok mi_D_deadDefinitions := by
  show ∀ q ∈ tb_D_deadDefinitions, decode prog_1_method_25_code q.1 = .ok q.2
  decide +kernel
theorem mw_D_deadDefinitions : mi_w mi_D_deadDefinitions 0 := ⟨tb_m 693 (by decide +kernel) (by decide +kernel), tb_m 144 (by decide +kernel) rfl, ⟨by decide +kernel, by decide +kernel, by decide +kernel⟩, by decide +kernel⟩
theorem mv_D_deadDefinitions : mi_wV mi_D_deadDefinitions := ⟨tb_m 691 (by decide +kernel) rfl, tb_m 692 (by decide +kernel) rfl⟩
def tb_D_pressure : List (Nat × Instr × Nat) := [(0, .aload_n 0, 1),
  (1, .invokevirtual 225, 3),
  (4, .invokevirtual 246, 3),
  (7, .ireturn, 1)]
def mi_D_pressure : mi_T := ("DataflowLab", ({ cls := "DataflowLab", name := "pressure", desc := "()I" } : MethodName), prog_1_method_26_code, 1, (Option.some FieldType.int), [], tb_D_pressure)
theorem mo_D_pressure : mi_ok mi_D_pressure := by
  show ∀ q ∈ tb_D_pressure, decode prog_1_method_26_code q.1 = .ok q.2
  decide +kernel
theorem mw_D_pressure : mi_w mi_D_pressure 0 := ⟨tb_m 775 (by decide +kernel) (by decide +kernel), tb_m 144 (by decide +kernel) rfl, ⟨by decide +kernel, by decide +kernel, by decide +kernel⟩, by decide +kernel⟩
theorem mv_D_pressure : mi_wV mi_D_pressure := ⟨tb_m 773 (by decide +kernel) rfl, tb_m 774 (by decide +kernel) rfl⟩
def tb_D_interfere : List (Nat × Instr × Nat) := [(0, .iload_n 1, 1),
  (1, .invokestatic 199, 3),
  (4, .iload_n 2, 1),
  (5, .invokestatic 199, 3),
  (8, .iload_n 1, 1),
  (9, .iload_n 2, 1),
  (10, .if_icmp .ne 5, 3),
  (13, .iconst 0, 1),
  (14, .ireturn, 1),
  (15, .aload_n 0, 1),
  (16, .invokevirtual 225, 3),
  (19, .aload_n 0, 1),
  (20, .getfield 87, 3),
  (23, .iload_n 1, 1),
  (24, .iload_n 2, 1),
  (25, .invokevirtual 249, 3),
  (28, .ifCond .ne 19, 3),
  (31, .aload_n 0, 1),
  (32, .invokevirtual 225, 3),
  (35, .aload_n 0, 1),
  (36, .getfield 87, 3),
  (39, .iload_n 2, 1),
  (40, .iload_n 1, 1),
  (41, .invokevirtual 249, 3),
  (44, .ifCond .eq 7, 3),
  (47, .iconst 1, 1),
  (48, .goto 4, 3),
  (51, .iconst 0, 1),
  (52, .ireturn, 1)]
def mi_D_interfere : mi_T := ("DataflowLab", ({ cls := "DataflowLab", name := "interfere", desc := "(II)Z" } : MethodName), prog_1_method_27_code, 3, (Option.some FieldType.boolean), [], tb_D_interfere)
theorem mo_D_interfere : mi_ok mi_D_interfere := by
  show ∀ q ∈ tb_D_interfere, decode prog_1_method_27_code q.1 = .ok q.2
  decide +kernel
theorem mw_D_interfere : mi_w mi_D_interfere 2 := ⟨tb_m 1473 (by decide +kernel) (by decide +kernel), tb_m 144 (by decide +kernel) rfl, ⟨by decide +kernel, by decide +kernel, by decide +kernel⟩, by decide +kernel⟩
theorem mv_D_interfere : mi_wV mi_D_interfere := ⟨tb_m 1471 (by decide +kernel) rfl, tb_m 1472 (by decide +kernel) rfl⟩
def tb_D_expressionCount : List (Nat × Instr × Nat) := [(0, .aload_n 0, 1),
  (1, .invokevirtual 253, 3),
  (4, .aload_n 0, 1),
  (5, .getfield 87, 3),
  (8, .invokevirtual 257, 3),
  (11, .ireturn, 1)]
def mi_D_expressionCount : mi_T := ("DataflowLab", ({ cls := "DataflowLab", name := "expressionCount", desc := "()I" } : MethodName), prog_1_method_28_code, 1, (Option.some FieldType.int), [], tb_D_expressionCount)
theorem mo_D_expressionCount : mi_ok mi_D_expressionCount := by
  show ∀ q ∈ tb_D_expressionCount, decode prog_1_method_28_code q.1 = .ok q.2
  decide +kernel
theorem mw_D_expressionCount : mi_w mi_D_expressionCount 0 := ⟨tb_m 792 (by decide +kernel) (by decide +kernel), tb_m 144 (by decide +kernel) rfl, ⟨by decide +kernel, by decide +kernel, by decide +kernel⟩, by decide +kernel⟩
theorem mv_D_expressionCount : mi_wV mi_D_expressionCount := ⟨tb_m 790 (by decide +kernel) rfl, tb_m 791 (by decide +kernel) rfl⟩
def tb_D_isRedundant : List (Nat × Instr × Nat) := [(0, .aload_n 0, 1),
  (1, .iload_n 1, 1),
  (2, .invokevirtual 144, 3),
  (5, .aload_n 0, 1),
  (6, .invokevirtual 253, 3),
  (9, .aload_n 0, 1),
  (10, .getfield 87, 3),
  (13, .iload_n 1, 1),
  (14, .invokevirtual 260, 3),
  (17, .ireturn, 1)]
def mi_D_isRedundant : mi_T := ("DataflowLab", ({ cls := "DataflowLab", name := "isRedundant", desc := "(I)Z" } : MethodName), prog_1_method_29_code, 2, (Option.some FieldType.boolean), [], tb_D_isRedundant)
theorem mo_D_isRedundant : mi_ok mi_D_isRedundant := by
  show ∀ q ∈ tb_D_isRedundant, decode prog_1_method_29_code q.1 = .ok q.2
  decide +kernel
theorem mw_D_isRedundant : mi_w mi_D_isRedundant 1 := ⟨tb_m 1486 (by decide +kernel) (by decide +kernel), tb_m 144 (by decide +kernel) rfl, ⟨by decide +kernel, by decide +kernel, by decide +kernel⟩, by decide +kernel⟩
theorem mv_D_isRedundant : mi_wV mi_D_isRedundant := ⟨tb_m 1484 (by decide +kernel) rfl, tb_m 1485 (by decide +kernel) rfl⟩
def tb_D_redundantCount : List (Nat × Instr × Nat) := [(0, .aload_n 0, 1),
  (1, .invokevirtual 253, 3),
  (4, .aload_n 0, 1),
  (5, .getfield 87, 3),
  (8, .invokevirtual 263, 3),
  (11, .ireturn, 1)]
def mi_D_redundantCount : mi_T := ("DataflowLab", ({ cls := "DataflowLab", name := "redundantCount", desc := "()I" } : MethodName), prog_1_method_30_code, 1, (Option.some FieldType.int), [], tb_D_redundantCount)
theorem mo_D_redundantCount : mi_ok mi_D_redundantCount := by
  show ∀ q ∈ tb_D_redundantCount, decode prog_1_method_30_code q.1 = .ok q.2
  decide +kernel
theorem mw_D_redundantCount : mi_w mi_D_redundantCount 0 := ⟨tb_m 899 (by decide +kernel) (by decide +kernel), tb_m 144 (by decide +kernel) rfl, ⟨by decide +kernel, by decide +kernel, by decide +kernel⟩, by decide +kernel⟩
theorem mv_D_redundantCount : mi_wV mi_D_redundantCount := ⟨tb_m 897 (by decide +kernel) rfl, tb_m 898 (by decide +kernel) rfl⟩
