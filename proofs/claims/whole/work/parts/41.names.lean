/-! ===== names: classes and their fields (the printed names), words by their places, methods ===== -/
def RX0 : String := "DataflowLab$Available"
def TX0 : u_T := fun k => match k with
  | 0 => ("DataflowLab$Available", "known", "Z", false)
  | 1 => ("DataflowLab$Available", "names", "[I", true)
  | 2 => ("DataflowLab$Available", "namesWith", "[J", true)
  | _ => ("DataflowLab$Available", "before", "[J", true)
def tyX0 : Nat → FieldType := fun k => match k with
  | 0 => .boolean
  | 1 => .array .int
  | 2 => .array .long
  | _ => .array .long
theorem nmX0 : ∀ a, a < 4 → ∀ b, b < 4 → a ≠ b → (TX0 a).2.1 ≠ (TX0 b).2.1 := by decide +kernel
theorem tyX0_ok : ∀ k, k < 4 → parseFieldDescriptor (TX0 k).2.2.1 = some (tyX0 k) := by decide +kernel
def RX1 : String := "DataflowLab$Code"
def TX1 : u_T := fun k => match k with
  | _ => ("", "", "", false)
def tyX1 : Nat → FieldType := fun k => match k with
  | _ => .int
theorem nmX1 : ∀ a, a < 0 → ∀ b, b < 0 → a ≠ b → (TX1 a).2.1 ≠ (TX1 b).2.1 := by decide +kernel
theorem tyX1_ok : ∀ k, k < 0 → parseFieldDescriptor (TX1 k).2.2.1 = some (tyX1 k) := by decide +kernel
def RX2 : String := "DataflowLab$Constants"
def TX2 : u_T := fun k => match k with
  | 0 => ("DataflowLab$Constants", "known", "Z", false)
  | 1 => ("DataflowLab$Constants", "before", "[I", true)
  | _ => ("DataflowLab$Constants", "given", "[I", true)
def tyX2 : Nat → FieldType := fun k => match k with
  | 0 => .boolean
  | 1 => .array .int
  | _ => .array .int
theorem nmX2 : ∀ a, a < 3 → ∀ b, b < 3 → a ≠ b → (TX2 a).2.1 ≠ (TX2 b).2.1 := by decide +kernel
theorem tyX2_ok : ∀ k, k < 3 → parseFieldDescriptor (TX2 k).2.2.1 = some (tyX2 k) := by decide +kernel
def RX3 : String := "DataflowLab$Graph"
def TX3 : u_T := fun k => match k with
  | 0 => ("DataflowLab$Graph", "known", "Z", false)
  | 1 => ("DataflowLab$Graph", "reached", "I", false)
  | 2 => ("DataflowLab$Graph", "successors", "[I", true)
  | 3 => ("DataflowLab$Graph", "predecessors", "[I", true)
  | 4 => ("DataflowLab$Graph", "distances", "[I", true)
  | 5 => ("DataflowLab$Graph", "dominators", "[I", true)
  | _ => ("DataflowLab$Graph", "bodies", "[I", true)
def tyX3 : Nat → FieldType := fun k => match k with
  | 0 => .boolean
  | 1 => .int
  | 2 => .array .int
  | 3 => .array .int
  | 4 => .array .int
  | 5 => .array .int
  | _ => .array .int
theorem nmX3 : ∀ a, a < 7 → ∀ b, b < 7 → a ≠ b → (TX3 a).2.1 ≠ (TX3 b).2.1 := by decide +kernel
theorem tyX3_ok : ∀ k, k < 7 → parseFieldDescriptor (TX3 k).2.2.1 = some (tyX3 k) := by decide +kernel
def RX4 : String := "DataflowLab$History"
def TX4 : u_T := fun k => match k with
  | 0 => ("DataflowLab$History", "kept", "[LDataflowLab$Program;", true)
  | 1 => ("DataflowLab$History", "next", "I", false)
  | _ => ("DataflowLab$History", "count", "I", false)
def tyX4 : Nat → FieldType := fun k => match k with
  | 0 => .array (.object "DataflowLab$Program")
  | 1 => .int
  | _ => .int
theorem nmX4 : ∀ a, a < 3 → ∀ b, b < 3 → a ≠ b → (TX4 a).2.1 ≠ (TX4 b).2.1 := by decide +kernel
theorem tyX4_ok : ∀ k, k < 3 → parseFieldDescriptor (TX4 k).2.2.1 = some (tyX4 k) := by decide +kernel
def RX5 : String := "DataflowLab$Liveness"
def TX5 : u_T := fun k => match k with
  | 0 => ("DataflowLab$Liveness", "known", "Z", false)
  | 1 => ("DataflowLab$Liveness", "before", "[I", true)
  | _ => ("DataflowLab$Liveness", "behind", "[I", true)
def tyX5 : Nat → FieldType := fun k => match k with
  | 0 => .boolean
  | 1 => .array .int
  | _ => .array .int
theorem nmX5 : ∀ a, a < 3 → ∀ b, b < 3 → a ≠ b → (TX5 a).2.1 ≠ (TX5 b).2.1 := by decide +kernel
theorem tyX5_ok : ∀ k, k < 3 → parseFieldDescriptor (TX5 k).2.2.1 = some (tyX5 k) := by decide +kernel
def RX6 : String := "DataflowLab$Machine"
def TX6 : u_T := fun k => match k with
  | 0 => ("DataflowLab$Machine", "values", "[I", true)
  | 1 => ("DataflowLab$Machine", "entries", "[I", true)
  | 2 => ("DataflowLab$Machine", "defined", "I", false)
  | 3 => ("DataflowLab$Machine", "point", "I", false)
  | 4 => ("DataflowLab$Machine", "steps", "I", false)
  | 5 => ("DataflowLab$Machine", "shown", "I", false)
  | _ => ("DataflowLab$Machine", "ended", "Z", false)
def tyX6 : Nat → FieldType := fun k => match k with
  | 0 => .array .int
  | 1 => .array .int
  | 2 => .int
  | 3 => .int
  | 4 => .int
  | 5 => .int
  | _ => .boolean
theorem nmX6 : ∀ a, a < 7 → ∀ b, b < 7 → a ≠ b → (TX6 a).2.1 ≠ (TX6 b).2.1 := by decide +kernel
theorem tyX6_ok : ∀ k, k < 7 → parseFieldDescriptor (TX6 k).2.2.1 = some (tyX6 k) := by decide +kernel
def RX7 : String := "DataflowLab$Parser"
def TX7 : u_T := fun k => match k with
  | 0 => ("DataflowLab$Parser", "bytes", "[I", true)
  | 1 => ("DataflowLab$Parser", "length", "I", false)
  | 2 => ("DataflowLab$Parser", "reportedCode", "I", false)
  | 3 => ("DataflowLab$Parser", "reportedPosition", "I", false)
  | 4 => ("DataflowLab$Parser", "token", "I", false)
  | 5 => ("DataflowLab$Parser", "start", "I", false)
  | 6 => ("DataflowLab$Parser", "end", "I", false)
  | 7 => ("DataflowLab$Parser", "value", "I", false)
  | 8 => ("DataflowLab$Parser", "firstPositions", "[I", true)
  | _ => ("DataflowLab$Parser", "secondPositions", "[I", true)
def tyX7 : Nat → FieldType := fun k => match k with
  | 0 => .array .int
  | 1 => .int
  | 2 => .int
  | 3 => .int
  | 4 => .int
  | 5 => .int
  | 6 => .int
  | 7 => .int
  | 8 => .array .int
  | _ => .array .int
theorem nmX7 : ∀ a, a < 10 → ∀ b, b < 10 → a ≠ b → (TX7 a).2.1 ≠ (TX7 b).2.1 := by decide +kernel
theorem tyX7_ok : ∀ k, k < 10 → parseFieldDescriptor (TX7 k).2.2.1 = some (tyX7 k) := by decide +kernel
def RX8 : String := "DataflowLab$Program"
def TX8 : u_T := fun k => match k with
  | 0 => ("DataflowLab$Program", "blocks", "I", false)
  | 1 => ("DataflowLab$Program", "instructions", "I", false)
  | 2 => ("DataflowLab$Program", "words", "[I", true)
  | 3 => ("DataflowLab$Program", "starts", "[I", true)
  | 4 => ("DataflowLab$Program", "ways", "[I", true)
  | 5 => ("DataflowLab$Program", "tested", "[I", true)
  | 6 => ("DataflowLab$Program", "firsts", "[I", true)
  | _ => ("DataflowLab$Program", "seconds", "[I", true)
def tyX8 : Nat → FieldType := fun k => match k with
  | 0 => .int
  | 1 => .int
  | 2 => .array .int
  | 3 => .array .int
  | 4 => .array .int
  | 5 => .array .int
  | 6 => .array .int
  | _ => .array .int
theorem nmX8 : ∀ a, a < 8 → ∀ b, b < 8 → a ≠ b → (TX8 a).2.1 ≠ (TX8 b).2.1 := by decide +kernel
theorem tyX8_ok : ∀ k, k < 8 → parseFieldDescriptor (TX8 k).2.2.1 = some (tyX8 k) := by decide +kernel
def RX9 : String := "DataflowLab$Reaching"
def TX9 : u_T := fun k => match k with
  | 0 => ("DataflowLab$Reaching", "known", "Z", false)
  | 1 => ("DataflowLab$Reaching", "definitions", "[J", true)
  | 2 => ("DataflowLab$Reaching", "initials", "[I", true)
  | _ => ("DataflowLab$Reaching", "definitionsOf", "[J", true)
def tyX9 : Nat → FieldType := fun k => match k with
  | 0 => .boolean
  | 1 => .array .long
  | 2 => .array .int
  | _ => .array .long
theorem nmX9 : ∀ a, a < 4 → ∀ b, b < 4 → a ≠ b → (TX9 a).2.1 ≠ (TX9 b).2.1 := by decide +kernel
theorem tyX9_ok : ∀ k, k < 4 → parseFieldDescriptor (TX9 k).2.2.1 = some (tyX9 k) := by decide +kernel
def RX10 : String := "DataflowLab$Writer"
def TX10 : u_T := fun k => match k with
  | 0 => ("DataflowLab$Writer", "bytes", "[I", true)
  | _ => ("DataflowLab$Writer", "length", "I", false)
def tyX10 : Nat → FieldType := fun k => match k with
  | 0 => .array .int
  | _ => .int
theorem nmX10 : ∀ a, a < 2 → ∀ b, b < 2 → a ≠ b → (TX10 a).2.1 ≠ (TX10 b).2.1 := by decide +kernel
theorem tyX10_ok : ∀ k, k < 2 → parseFieldDescriptor (TX10 k).2.2.1 = some (tyX10 k) := by decide +kernel
def RX11 : String := "DataflowLab"
def TX11 : u_T := fun k => match k with
  | 0 => ("DataflowLab", "program", "LDataflowLab$Program;", true)
  | 1 => ("DataflowLab", "draft", "LDataflowLab$Program;", true)
  | 2 => ("DataflowLab", "parser", "LDataflowLab$Parser;", true)
  | 3 => ("DataflowLab", "writer", "LDataflowLab$Writer;", true)
  | 4 => ("DataflowLab", "history", "LDataflowLab$History;", true)
  | 5 => ("DataflowLab", "snapshots", "[LDataflowLab$Program;", true)
  | 6 => ("DataflowLab", "theGraph", "LDataflowLab$Graph;", true)
  | 7 => ("DataflowLab", "theReaching", "LDataflowLab$Reaching;", true)
  | 8 => ("DataflowLab", "theLiveness", "LDataflowLab$Liveness;", true)
  | 9 => ("DataflowLab", "theAvailable", "LDataflowLab$Available;", true)
  | 10 => ("DataflowLab", "theConstants", "LDataflowLab$Constants;", true)
  | _ => ("DataflowLab", "machine", "LDataflowLab$Machine;", true)
def tyX11 : Nat → FieldType := fun k => match k with
  | 0 => .object "DataflowLab$Program"
  | 1 => .object "DataflowLab$Program"
  | 2 => .object "DataflowLab$Parser"
  | 3 => .object "DataflowLab$Writer"
  | 4 => .object "DataflowLab$History"
  | 5 => .array (.object "DataflowLab$Program")
  | 6 => .object "DataflowLab$Graph"
  | 7 => .object "DataflowLab$Reaching"
  | 8 => .object "DataflowLab$Liveness"
  | 9 => .object "DataflowLab$Available"
  | 10 => .object "DataflowLab$Constants"
  | _ => .object "DataflowLab$Machine"
theorem nmX11 : ∀ a, a < 12 → ∀ b, b < 12 → a ≠ b → (TX11 a).2.1 ≠ (TX11 b).2.1 := by decide +kernel
theorem tyX11_ok : ∀ k, k < 12 → parseFieldDescriptor (TX11 k).2.2.1 = some (tyX11 k) := by decide +kernel
def RX12 : String := "DataflowLabModel"
def TX12 : u_T := fun k => match k with
  | 0 => ("DataflowLabModel", "s", "[I", true)
  | 1 => ("DataflowLabModel", "isSaved", "[Z", true)
  | 2 => ("DataflowLabModel", "o", "I", false)
  | 3 => ("DataflowLabModel", "undos", "I", false)
  | 4 => ("DataflowLabModel", "thrown", "I", false)
  | 5 => ("DataflowLabModel", "seen", "[Z", true)
  | 6 => ("DataflowLabModel", "lacks", "[Z", true)
  | 7 => ("DataflowLabModel", "known", "[I", true)
  | 8 => ("DataflowLabModel", "now", "[I", true)
  | 9 => ("DataflowLabModel", "value", "[I", true)
  | 10 => ("DataflowLabModel", "runBlock", "I", false)
  | 11 => ("DataflowLabModel", "runPlace", "I", false)
  | 12 => ("DataflowLabModel", "lastShow", "I", false)
  | 13 => ("DataflowLabModel", "isOver", "Z", false)
  | 14 => ("DataflowLabModel", "text", "[I", true)
  | 15 => ("DataflowLabModel", "length", "I", false)
  | 16 => ("DataflowLabModel", "code", "I", false)
  | 17 => ("DataflowLabModel", "position", "I", false)
  | 18 => ("DataflowLabModel", "at", "I", false)
  | 19 => ("DataflowLabModel", "begin", "I", false)
  | 20 => ("DataflowLabModel", "token", "I", false)
  | 21 => ("DataflowLabModel", "number", "I", false)
  | 22 => ("DataflowLabModel", "told", "[I", true)
  | 23 => ("DataflowLabModel", "out", "[I", true)
  | _ => ("DataflowLabModel", "written", "I", false)
def tyX12 : Nat → FieldType := fun k => match k with
  | 0 => .array .int
  | 1 => .array .boolean
  | 2 => .int
  | 3 => .int
  | 4 => .int
  | 5 => .array .boolean
  | 6 => .array .boolean
  | 7 => .array .int
  | 8 => .array .int
  | 9 => .array .int
  | 10 => .int
  | 11 => .int
  | 12 => .int
  | 13 => .boolean
  | 14 => .array .int
  | 15 => .int
  | 16 => .int
  | 17 => .int
  | 18 => .int
  | 19 => .int
  | 20 => .int
  | 21 => .int
  | 22 => .array .int
  | 23 => .array .int
  | _ => .int
theorem nmX12 : ∀ a, a < 25 → ∀ b, b < 25 → a ≠ b → (TX12 a).2.1 ≠ (TX12 b).2.1 := by decide +kernel
theorem tyX12_ok : ∀ k, k < 25 → parseFieldDescriptor (TX12 k).2.2.1 = some (tyX12 k) := by decide +kernel
abbrev vwCl : List vw_C := [(RX0, TX0, 4), (RX2, TX2, 3), (RX3, TX3, 7), (RX4, TX4, 3), (RX5, TX5, 3), (RX6, TX6, 7), (RX7, TX7, 10), (RX8, TX8, 8), (RX9, TX9, 4), (RX10, TX10, 2), (RX11, TX11, 12), (RX12, TX12, 25)]
def tb_G : List Cond := lw_tbl.filter goodWord
theorem tb_m {w : Cond} (i : Nat) (h : lw_tbl[i]? = some w) (g : goodWord w = true) : w ∈ tb_G := List.mem_filter.mpr ⟨List.mem_of_getElem? h, g⟩
theorem tb_l {w : Cond} (h : w ∈ tb_G) : w ∈ lw_tbl := (List.mem_filter.mp h).1
theorem tb_g {w : Cond} (h : w ∈ tb_G) : goodWord w = true := (List.mem_filter.mp h).2
/-- a method: own class, name, code, variables, answer, handlers, instructions -/
abbrev mi_T : Type := String × MethodName × ByteArray × Nat × Option FieldType × List (Nat × Nat × Nat × Nat) × List (Nat × Instr × Nat)
def mi_own (m : mi_T) : String := m.1
def mi_y (m : mi_T) : MethodName := m.2.1
def mi_cc (m : mi_T) : ByteArray := m.2.2.1
def mi_nL (m : mi_T) : Nat := m.2.2.2.1
def mi_ret (m : mi_T) : Option FieldType := m.2.2.2.2.1
def mi_hh (m : mi_T) : List (Nat × Nat × Nat × Nat) := m.2.2.2.2.2.1
def mi_tb (m : mi_T) : List (Nat × Instr × Nat) := m.2.2.2.2.2.2
def mi_cw (m : mi_T) : Cond := if (mi_hh m).isEmpty = true then .code (mi_y m) (mi_cc m) (mi_nL m) (mi_ret m) else .codeWith (mi_y m) (mi_cc m) (mi_nL m) (mi_ret m) (mi_hh m)
def mi_ok (m : mi_T) : Prop := ∀ q ∈ mi_tb m, decode (mi_cc m) q.1 = .ok q.2
/-- what a caller needs of a method's words: its code, its class initialised, a plain class name, how many arguments -/
def mi_w (m : mi_T) (n : Nat) : Prop := mi_cw m ∈ tb_G ∧ Cond.initialized (mi_y m).cls ∈ tb_G ∧ ((mi_y m).cls ≠ "java/lang/invoke/MethodHandle" ∧ (mi_y m).cls ≠ "java/lang/invoke/VarHandle" ∧ (parseMethodDescriptor (mi_y m).desc).map (fun d => d.parameters.length) = some n) ∧ plainFor (mi_y m) = true
def mi_wV (m : mi_T) : Prop := Cond.instanceMethod (mi_y m) ∈ tb_G ∧ Cond.selects (mi_y m).cls (mi_y m) (mi_y m) ∈ tb_G
theorem inTX0 : ∀ w ∈ u_ws RX0 TX0 4, w ∈ tb_G := by
  intro w hw
  obtain ⟨k, hk, rfl⟩ := List.mem_map.mp hw
  have hk := List.mem_range.mp hk
  exact match k, hk with
  | 0, _ => tb_m 369 (by decide +kernel) rfl
  | 1, _ => tb_m 371 (by decide +kernel) rfl
  | 2, _ => tb_m 373 (by decide +kernel) rfl
  | 3, _ => tb_m 375 (by decide +kernel) rfl
  | k + 4, h => absurd h (by omega)
theorem inTX2 : ∀ w ∈ u_ws RX2 TX2 3, w ∈ tb_G := by
  intro w hw
  obtain ⟨k, hk, rfl⟩ := List.mem_map.mp hw
  have hk := List.mem_range.mp hk
  exact match k, hk with
  | 0, _ => tb_m 388 (by decide +kernel) rfl
  | 1, _ => tb_m 390 (by decide +kernel) rfl
  | 2, _ => tb_m 392 (by decide +kernel) rfl
  | k + 3, h => absurd h (by omega)
theorem inTX3 : ∀ w ∈ u_ws RX3 TX3 7, w ∈ tb_G := by
  intro w hw
  obtain ⟨k, hk, rfl⟩ := List.mem_map.mp hw
  have hk := List.mem_range.mp hk
  exact match k, hk with
  | 0, _ => tb_m 305 (by decide +kernel) rfl
  | 1, _ => tb_m 307 (by decide +kernel) rfl
  | 2, _ => tb_m 309 (by decide +kernel) rfl
  | 3, _ => tb_m 311 (by decide +kernel) rfl
  | 4, _ => tb_m 313 (by decide +kernel) rfl
  | 5, _ => tb_m 315 (by decide +kernel) rfl
  | 6, _ => tb_m 317 (by decide +kernel) rfl
  | k + 7, h => absurd h (by omega)
theorem inTX4 : ∀ w ∈ u_ws RX4 TX4 3, w ∈ tb_G := by
  intro w hw
  obtain ⟨k, hk, rfl⟩ := List.mem_map.mp hw
  have hk := List.mem_range.mp hk
  exact match k, hk with
  | 0, _ => tb_m 284 (by decide +kernel) rfl
  | 1, _ => tb_m 286 (by decide +kernel) rfl
  | 2, _ => tb_m 288 (by decide +kernel) rfl
  | k + 3, h => absurd h (by omega)
theorem inTX5 : ∀ w ∈ u_ws RX5 TX5 3, w ∈ tb_G := by
  intro w hw
  obtain ⟨k, hk, rfl⟩ := List.mem_map.mp hw
  have hk := List.mem_range.mp hk
  exact match k, hk with
  | 0, _ => tb_m 351 (by decide +kernel) rfl
  | 1, _ => tb_m 353 (by decide +kernel) rfl
  | 2, _ => tb_m 355 (by decide +kernel) rfl
  | k + 3, h => absurd h (by omega)
theorem inTX6 : ∀ w ∈ u_ws RX6 TX6 7, w ∈ tb_G := by
  intro w hw
  obtain ⟨k, hk, rfl⟩ := List.mem_map.mp hw
  have hk := List.mem_range.mp hk
  exact match k, hk with
  | 0, _ => tb_m 411 (by decide +kernel) rfl
  | 1, _ => tb_m 413 (by decide +kernel) rfl
  | 2, _ => tb_m 415 (by decide +kernel) rfl
  | 3, _ => tb_m 417 (by decide +kernel) rfl
  | 4, _ => tb_m 419 (by decide +kernel) rfl
  | 5, _ => tb_m 421 (by decide +kernel) rfl
  | 6, _ => tb_m 423 (by decide +kernel) rfl
  | k + 7, h => absurd h (by omega)
theorem inTX7 : ∀ w ∈ u_ws RX7 TX7 10, w ∈ tb_G := by
  intro w hw
  obtain ⟨k, hk, rfl⟩ := List.mem_map.mp hw
  have hk := List.mem_range.mp hk
  exact match k, hk with
  | 0, _ => tb_m 237 (by decide +kernel) rfl
  | 1, _ => tb_m 239 (by decide +kernel) rfl
  | 2, _ => tb_m 241 (by decide +kernel) rfl
  | 3, _ => tb_m 243 (by decide +kernel) rfl
  | 4, _ => tb_m 245 (by decide +kernel) rfl
  | 5, _ => tb_m 247 (by decide +kernel) rfl
  | 6, _ => tb_m 249 (by decide +kernel) rfl
  | 7, _ => tb_m 251 (by decide +kernel) rfl
  | 8, _ => tb_m 253 (by decide +kernel) rfl
  | 9, _ => tb_m 255 (by decide +kernel) rfl
  | k + 10, h => absurd h (by omega)
theorem inTX8 : ∀ w ∈ u_ws RX8 TX8 8, w ∈ tb_G := by
  intro w hw
  obtain ⟨k, hk, rfl⟩ := List.mem_map.mp hw
  have hk := List.mem_range.mp hk
  exact match k, hk with
  | 0, _ => tb_m 201 (by decide +kernel) rfl
  | 1, _ => tb_m 203 (by decide +kernel) rfl
  | 2, _ => tb_m 205 (by decide +kernel) rfl
  | 3, _ => tb_m 207 (by decide +kernel) rfl
  | 4, _ => tb_m 209 (by decide +kernel) rfl
  | 5, _ => tb_m 211 (by decide +kernel) rfl
  | 6, _ => tb_m 213 (by decide +kernel) rfl
  | 7, _ => tb_m 215 (by decide +kernel) rfl
  | k + 8, h => absurd h (by omega)
theorem inTX9 : ∀ w ∈ u_ws RX9 TX9 4, w ∈ tb_G := by
  intro w hw
  obtain ⟨k, hk, rfl⟩ := List.mem_map.mp hw
  have hk := List.mem_range.mp hk
  exact match k, hk with
  | 0, _ => tb_m 331 (by decide +kernel) rfl
  | 1, _ => tb_m 333 (by decide +kernel) rfl
  | 2, _ => tb_m 335 (by decide +kernel) rfl
  | 3, _ => tb_m 337 (by decide +kernel) rfl
  | k + 4, h => absurd h (by omega)
theorem inTX10 : ∀ w ∈ u_ws RX10 TX10 2, w ∈ tb_G := by
  intro w hw
  obtain ⟨k, hk, rfl⟩ := List.mem_map.mp hw
  have hk := List.mem_range.mp hk
  exact match k, hk with
  | 0, _ => tb_m 267 (by decide +kernel) rfl
  | 1, _ => tb_m 269 (by decide +kernel) rfl
  | k + 2, h => absurd h (by omega)
theorem inTX11 : ∀ w ∈ u_ws RX11 TX11 12, w ∈ tb_G := by
  intro w hw
  obtain ⟨k, hk, rfl⟩ := List.mem_map.mp hw
  have hk := List.mem_range.mp hk
  exact match k, hk with
  | 0, _ => tb_m 624 (by decide +kernel) rfl
  | 1, _ => tb_m 626 (by decide +kernel) rfl
  | 2, _ => tb_m 628 (by decide +kernel) rfl
  | 3, _ => tb_m 630 (by decide +kernel) rfl
  | 4, _ => tb_m 632 (by decide +kernel) rfl
  | 5, _ => tb_m 634 (by decide +kernel) rfl
  | 6, _ => tb_m 636 (by decide +kernel) rfl
  | 7, _ => tb_m 638 (by decide +kernel) rfl
  | 8, _ => tb_m 640 (by decide +kernel) rfl
  | 9, _ => tb_m 642 (by decide +kernel) rfl
  | 10, _ => tb_m 644 (by decide +kernel) rfl
  | 11, _ => tb_m 646 (by decide +kernel) rfl
  | k + 12, h => absurd h (by omega)
theorem inTX12 : ∀ w ∈ u_ws RX12 TX12 25, w ∈ tb_G := by
  intro w hw
  obtain ⟨k, hk, rfl⟩ := List.mem_map.mp hw
  have hk := List.mem_range.mp hk
  exact match k, hk with
  | 0, _ => tb_m 1858 (by decide +kernel) rfl
  | 1, _ => tb_m 1860 (by decide +kernel) rfl
  | 2, _ => tb_m 1862 (by decide +kernel) rfl
  | 3, _ => tb_m 1864 (by decide +kernel) rfl
  | 4, _ => tb_m 1866 (by decide +kernel) rfl
  | 5, _ => tb_m 1868 (by decide +kernel) rfl
  | 6, _ => tb_m 1870 (by decide +kernel) rfl
  | 7, _ => tb_m 1872 (by decide +kernel) rfl
  | 8, _ => tb_m 1874 (by decide +kernel) rfl
  | 9, _ => tb_m 1876 (by decide +kernel) rfl
  | 10, _ => tb_m 1878 (by decide +kernel) rfl
  | 11, _ => tb_m 1880 (by decide +kernel) rfl
  | 12, _ => tb_m 1882 (by decide +kernel) rfl
  | 13, _ => tb_m 1884 (by decide +kernel) rfl
  | 14, _ => tb_m 1886 (by decide +kernel) rfl
  | 15, _ => tb_m 1888 (by decide +kernel) rfl
  | 16, _ => tb_m 1890 (by decide +kernel) rfl
  | 17, _ => tb_m 1892 (by decide +kernel) rfl
  | 18, _ => tb_m 1894 (by decide +kernel) rfl
  | 19, _ => tb_m 1896 (by decide +kernel) rfl
  | 20, _ => tb_m 1898 (by decide +kernel) rfl
  | 21, _ => tb_m 1900 (by decide +kernel) rfl
  | 22, _ => tb_m 1902 (by decide +kernel) rfl
  | 23, _ => tb_m 1904 (by decide +kernel) rfl
  | 24, _ => tb_m 1906 (by decide +kernel) rfl
  | k + 25, h => absurd h (by omega)
def tb_JS_charAt : List (Nat × Instr × Nat) := [(0, .aload_n 0, 1),
  (1, .invokevirtual 492, 3),
  (4, .ifCond .eq 12, 3),
  (7, .aload_n 0, 1),
  (8, .getfield 9, 3),
  (11, .iload_n 1, 1),
  (12, .invokestatic 495, 3),
  (15, .ireturn, 1),
  (16, .aload_n 0, 1),
  (17, .getfield 9, 3),
  (20, .iload_n 1, 1),
  (21, .invokestatic 498, 3),
  (24, .ireturn, 1)]
def mi_JS_charAt : mi_T := ("java/lang/String", ({ cls := "java/lang/String", name := "charAt", desc := "(I)C" } : MethodName), prog_26_method_56_code, 2, (Option.some FieldType.char), [], tb_JS_charAt)
theorem mo_JS_charAt : mi_ok mi_JS_charAt := by
  show ∀ q ∈ tb_JS_charAt, decode prog_26_method_56_code q.1 = .ok q.2
  decide +kernel
theorem mw_JS_charAt : mi_w mi_JS_charAt 1 := ⟨tb_m 451 (by decide +kernel) (by decide +kernel), tb_m 155 (by decide +kernel) rfl, ⟨by decide +kernel, by decide +kernel, by decide +kernel⟩, by decide +kernel⟩
theorem mv_JS_charAt : mi_wV mi_JS_charAt := ⟨tb_m 449 (by decide +kernel) rfl, tb_m 450 (by decide +kernel) rfl⟩
def tb_JS_checkIndex : List (Nat × Instr × Nat) := [(0, .iload_n 0, 1),
  (1, .iload_n 1, 1),
  (2, .getstatic 1053, 3),
  (5, .invokestatic 1059, 3),
  (8, .pop, 1),
  (9, .return_, 1)]
def mi_JS_checkIndex : mi_T := ("java/lang/String", ({ cls := "java/lang/String", name := "checkIndex", desc := "(II)V" } : MethodName), prog_26_method_155_code, 2, (Option.none : Option FieldType), [], tb_JS_checkIndex)
theorem mo_JS_checkIndex : mi_ok mi_JS_checkIndex := by
  show ∀ q ∈ tb_JS_checkIndex, decode prog_26_method_155_code q.1 = .ok q.2
  decide +kernel
theorem mw_JS_checkIndex : mi_w mi_JS_checkIndex 2 := ⟨tb_m 461 (by decide +kernel) (by decide +kernel), tb_m 155 (by decide +kernel) rfl, ⟨by decide +kernel, by decide +kernel, by decide +kernel⟩, by decide +kernel⟩
theorem mv_JS_checkIndex : Cond.static (mi_y mi_JS_checkIndex) ∈ tb_G := tb_m 460 (by decide +kernel) rfl
def tb_JS_coder : List (Nat × Instr × Nat) := [(0, .getstatic 38, 3),
  (3, .ifCond .eq 10, 3),
  (6, .aload_n 0, 1),
  (7, .getfield 15, 3),
  (10, .goto 4, 3),
  (13, .iconst 1, 1),
  (14, .ireturn, 1)]
def mi_JS_coder : mi_T := ("java/lang/String", ({ cls := "java/lang/String", name := "coder", desc := "()B" } : MethodName), prog_26_method_152_code, 1, (Option.some FieldType.byte), [], tb_JS_coder)
theorem mo_JS_coder : mi_ok mi_JS_coder := by
  show ∀ q ∈ tb_JS_coder, decode prog_26_method_152_code q.1 = .ok q.2
  decide +kernel
theorem mw_JS_coder : mi_w mi_JS_coder 0 := ⟨tb_m 445 (by decide +kernel) (by decide +kernel), tb_m 155 (by decide +kernel) rfl, ⟨by decide +kernel, by decide +kernel, by decide +kernel⟩, by decide +kernel⟩
theorem mv_JS_coder : mi_wV mi_JS_coder := ⟨tb_m 443 (by decide +kernel) rfl, tb_m 444 (by decide +kernel) rfl⟩
def tb_JS_isLatin1 : List (Nat × Instr × Nat) := [(0, .getstatic 38, 3),
  (3, .ifCond .eq 14, 3),
  (6, .aload_n 0, 1),
  (7, .getfield 15, 3),
  (10, .ifCond .ne 7, 3),
  (13, .iconst 1, 1),
  (14, .goto 4, 3),
  (17, .iconst 0, 1),
  (18, .ireturn, 1)]
def mi_JS_isLatin1 : mi_T := ("java/lang/String", ({ cls := "java/lang/String", name := "isLatin1", desc := "()Z" } : MethodName), prog_26_method_154_code, 1, (Option.some FieldType.boolean), [], tb_JS_isLatin1)
theorem mo_JS_isLatin1 : mi_ok mi_JS_isLatin1 := by
  show ∀ q ∈ tb_JS_isLatin1, decode prog_26_method_154_code q.1 = .ok q.2
  decide +kernel
theorem mw_JS_isLatin1 : mi_w mi_JS_isLatin1 0 := ⟨tb_m 455 (by decide +kernel) (by decide +kernel), tb_m 155 (by decide +kernel) rfl, ⟨by decide +kernel, by decide +kernel, by decide +kernel⟩, by decide +kernel⟩
theorem mv_JS_isLatin1 : mi_wV mi_JS_isLatin1 := ⟨tb_m 453 (by decide +kernel) rfl, tb_m 454 (by decide +kernel) rfl⟩
def tb_JS_length : List (Nat × Instr × Nat) := [(0, .aload_n 0, 1),
  (1, .getfield 9, 3),
  (4, .arraylength, 1),
  (5, .aload_n 0, 1),
  (6, .invokevirtual 335, 3),
  (9, .ishr, 1),
  (10, .ireturn, 1)]
def mi_JS_length : mi_T := ("java/lang/String", ({ cls := "java/lang/String", name := "length", desc := "()I" } : MethodName), prog_26_method_54_code, 1, (Option.some FieldType.int), [], tb_JS_length)
theorem mo_JS_length : mi_ok mi_JS_length := by
  show ∀ q ∈ tb_JS_length, decode prog_26_method_54_code q.1 = .ok q.2
  decide +kernel
theorem mw_JS_length : mi_w mi_JS_length 0 := ⟨tb_m 441 (by decide +kernel) (by decide +kernel), tb_m 155 (by decide +kernel) rfl, ⟨by decide +kernel, by decide +kernel, by decide +kernel⟩, by decide +kernel⟩
theorem mv_JS_length : mi_wV mi_JS_length := ⟨tb_m 439 (by decide +kernel) rfl, tb_m 440 (by decide +kernel) rfl⟩
def tb_JT_charAt : List (Nat × Instr × Nat) := [(0, .iload_n 1, 1),
  (1, .aload_n 0, 1),
  (2, .arraylength, 1),
  (3, .invokestatic 9, 3),
  (6, .aload_n 0, 1),
  (7, .iload_n 1, 1),
  (8, .baload, 1),
  (9, .sipush 255, 3),
  (12, .iand, 1),
  (13, .i2c, 1),
  (14, .ireturn, 1)]
def mi_JT_charAt : mi_T := ("java/lang/StringLatin1", ({ cls := "java/lang/StringLatin1", name := "charAt", desc := "([BI)C" } : MethodName), prog_27_method_2_code, 2, (Option.some FieldType.char), [], tb_JT_charAt)
theorem mo_JT_charAt : mi_ok mi_JT_charAt := by
  show ∀ q ∈ tb_JT_charAt, decode prog_27_method_2_code q.1 = .ok q.2
  decide +kernel
theorem mw_JT_charAt : mi_w mi_JT_charAt 2 := ⟨tb_m 458 (by decide +kernel) (by decide +kernel), tb_m 156 (by decide +kernel) rfl, ⟨by decide +kernel, by decide +kernel, by decide +kernel⟩, by decide +kernel⟩
theorem mv_JT_charAt : Cond.static (mi_y mi_JT_charAt) ∈ tb_G := tb_m 457 (by decide +kernel) rfl
def tb_JP_checkIndex : List (Nat × Instr × Nat) := [(0, .iload_n 0, 1),
  (1, .ifCond .lt 8, 3),
  (4, .iload_n 0, 1),
  (5, .iload_n 1, 1),
  (6, .if_icmp .lt 10, 3),
  (9, .aload_n 2, 1),
  (10, .iload_n 0, 1),
  (11, .iload_n 1, 1),
  (12, .invokestatic 95, 3),
  (15, .athrow, 1),
  (16, .iload_n 0, 1),
  (17, .ireturn, 1)]
def mi_JP_checkIndex : mi_T := ("jdk/internal/util/Preconditions", ({ cls := "jdk/internal/util/Preconditions", name := "checkIndex", desc := "(IILjava/util/function/BiFunction;)I" } : MethodName), prog_33_method_11_code, 3, (Option.some FieldType.int), [], tb_JP_checkIndex)
theorem mo_JP_checkIndex : mi_ok mi_JP_checkIndex := by
  show ∀ q ∈ tb_JP_checkIndex, decode prog_33_method_11_code q.1 = .ok q.2
  decide +kernel
theorem mw_JP_checkIndex : mi_w mi_JP_checkIndex 3 := ⟨tb_m 466 (by decide +kernel) (by decide +kernel), tb_m 157 (by decide +kernel) rfl, ⟨by decide +kernel, by decide +kernel, by decide +kernel⟩, by decide +kernel⟩
theorem mv_JP_checkIndex : Cond.static (mi_y mi_JP_checkIndex) ∈ tb_G := tb_m 465 (by decide +kernel) rfl
