/-! ===== what the tables and the old heap say, in every state of the run ===== -/
abbrev rs_T : Type := Option Value ⊕ String
def gl_t (G : gl_T) : List (ClassId × FieldType) := [(gl_A G 20, .int), (gl_A G 21, .long), (gl_A G 22, .boolean), (gl_A G 23, .object "DataflowLab$Program")]
/-- the formatter of wrong indices, null or not -/
def sf_R (G : gl_T) : Nat := if gl_V G 5000 = 0 then 0 else st_B + 2000
/-- the law's own script, when there is one: its cell, its length, its ints -/
def sc_S (G : gl_T) (s : State) (H : Heap) : Prop := gl_V G 9000 = 0 ∨ (va_X (gl_K G 9000) (gl_V G 9001) (fun k => Int32.ofNat (gl_V G (9002 + k))) s H ∧ ¬ gl_f G (gl_K G 9000))
theorem sc_S.moved {G : gl_T} {s U : State} {H H1 : Heap} (hvm : s.vm.Alike U.vm) (h : sc_S G s H) (hq : ∀ a : Nat, a < H.size → ¬ gl_f G a → H1[a]? = H[a]?) : sc_S G U H1 := by
  rcases h with h | h
  · exact Or.inl h
  · obtain ⟨scr, hs⟩ := h.1
    have hl : gl_K G 9000 < H.size := (Array.getElem?_eq_some_iff.mp hs.1).1
    exact Or.inr ⟨(va_X.moved hvm h.1).kept (hq _ hl h.2), h.2⟩
def gf_h (G : gl_T) (s : State) (H : Heap) : Prop :=
  vk_S gs_N gs_len gs_byt (gl_K G) (gl_V G) (gl_f G) s H ∧ vx_Zq Bundle.tN "UNASSIGNED_STACK" Bundle.steD (gl_f G) s H ∧ vx_Zq Bundle.tN "SUPPRESSED_SENTINEL" Bundle.listD (gl_f G) s H ∧
  va_Z "java/lang/String" "COMPACT_STRINGS" "Z" (.int 1) (gl_f G) s H ∧ va_Z "jdk/internal/util/Preconditions" "SIOOBE_FORMATTER" "Ljava/util/function/BiFunction;" (cv_v G (fun _ => 0) (.ref (sf_R G))) (gl_f G) s H ∧ sc_S G s H
def gf_t (G : gl_T) (s : State) : Prop :=
  va_K (gl_D G) vwCl (gl_t G) s ∧ (∀ q ∈ gn_F, va_Nw (.fieldLinkNest q.1 q.2.1 q.2.2.1 q.2.2.2.1 q.2.2.2.2.1 q.2.2.2.2.2) s) ∧ (∀ q ∈ gn_M, va_Nw (.methodLinkNest q.1 q.2.1 q.2.2.1 q.2.2.2) s) ∧
  (∀ q ∈ gn_C, va_Nw (.castable q.1 q.2) s) ∧ (∀ q ∈ gn_X, va_Nc q.1 q.2 s) ∧ (∀ q ∈ gs_ref, vk_R q.1 q.2.1 q.2.2.1 (gl_K G q.2.2.2) s) ∧ va_AO "DataflowLab$Program" s ∧ (∀ x ∈ gn_D, va_Nw (.declares x) s) ∧ ∀ i, i < gs_N → gl_K G (1000 + i) = gl_V G i
def gf_g (G : gl_T) (s : State) : Prop := gf_t G s ∧ gf_h G s s.heap ∧ gl_b G ≤ s.heap.size
theorem gf_t.moved {G : gl_T} {s U : State} (hW : s.WarmedH U.vm) (h : gf_t G s) : gf_t G U := by
  obtain ⟨h1, h2, h3, h4, h5, h6, h7, h8, h9⟩ := h
  exact ⟨va_K.moved hW.alike h1, fun q hq => va_Nw.warmF hW (h2 q hq), fun q hq => va_Nw.warmM hW (h3 q hq), fun q hq => va_Nw.warmC hW (h4 q hq), fun q hq => va_Nc.moved hW.alike (h5 q hq), fun q hq => vk_R.warm hW (h6 q hq), va_AO.moved hW.alike h7, fun q hq => va_Nw.warmD hW (h8 q hq), h9⟩
theorem gf_h.moved {G : gl_T} {s U : State} {H H1 : Heap} (hvm : s.vm.Alike U.vm) (h : gf_h G s H) (hq : ∀ a : Nat, a < H.size → ¬ gl_f G a → H1[a]? = H[a]?) : gf_h G U H1 := by
  obtain ⟨h1, h2, h3, h4, h5, h6⟩ := h
  exact ⟨(vk_S.moved hvm h1).kept hq, (vx_Zq.moved hvm h2).kept hq, (vx_Zq.moved hvm h3).kept hq, (va_Z.moved hvm h4).kept hq, (va_Z.moved hvm h5).kept hq, sc_S.moved hvm h6 hq⟩
theorem gf_g.moved {G : gl_T} {s U : State} (hW : s.WarmedH U.vm) (h : gf_g G s) (hs : s.heap.size ≤ U.heap.size) (hq : ∀ a : Nat, a < s.heap.size → ¬ gl_f G a → U.heap[a]? = s.heap[a]?) : gf_g G U :=
  ⟨gf_t.moved hW h.1, gf_h.moved hW.alike h.2.1 hq, Nat.le_trans h.2.2 hs⟩
/-! ===== contracts over the small memory ===== -/
def pc_P (G : gl_T) (ad : Nat → Nat) (as : List Value) (M : mm_T) : Array Value → State → Prop := fun v U => v = (as.map (cv_v G ad)).toArray ∧ gf_g G U ∧ wr_h G ad M U.heap
def qc_Q (G : gl_T) (ad : Nat → Nat) (M : mm_T) (ov : Option Value) (M' : mm_T) : Array Value → State → Outcome → State → Prop := fun _ st o t => ∃ ad', o = .returned (ov.map (cv_v G ad')) ∧ ex_a ad ad' M ∧ wr_h G ad' M' t.heap ∧ va_F (gl_f G) st t
def xc_X (G : gl_T) (ad : Nat → Nat) (M : mm_T) (E : String) (M' : mm_T) : String → State → State → Prop := fun E' st t => E' = E ∧ ∃ ad', ex_a ad ad' M ∧ wr_h G ad' M' t.heap ∧ va_F (gl_f G) st t
def no_Q : Array Value → State → Outcome → State → Prop := fun _ _ _ _ => False
def mi_ws (mi : mi_T) : List Cond := mi_cw mi :: tb_G
def mo_M (M M' : mm_T) (r : rs_T) : Prop := mm_n M ≤ mm_n M' ∧ mm_c M ≤ mm_c M' ∧ mm_u M ≤ mm_u M' ∧ mm_wf M' ∧ ∀ v, r = .inl (some v) → ok_v M' v
def sp_c (mi : mi_T) (fr lo : Nat) (G : gl_T) (as : List Value) (M : mm_T) (r : rs_T) (M' : mm_T) : Prop :=
  ∀ (l : Launch) (ad : Nat → Nat), l.stackTraces = false → match r with
    | .inl ov => Met l (mi_y mi) (mi_ws mi) ({ frames := fr, cells := mm_c M' - mm_c M, slots := mm_u M' - mm_u M, locals := lo }) (pc_P G ad as M) (qc_Q G ad M ov M') (mm_c M' - mm_c M) (mm_u M' - mm_u M) (gl_f G)
    | .inr E => vx_Met l (mi_y mi) (mi_ws mi) ({ frames := fr, cells := mm_c M' - mm_c M, slots := mm_u M' - mm_u M, locals := lo }) (pc_P G ad as M) no_Q (xc_X G ad M E M') (mm_c M' - mm_c M) (mm_u M' - mm_u M) (gl_f G)
/-- the method, called with these arguments on this memory, answers r (or throws) and leaves M' -/
def sp_S (mi : mi_T) (fr lo : Nat) (G : gl_T) (as : List Value) (M : mm_T) (r : rs_T) (M' : mm_T) : Prop :=
  mm_wf M → ok_S M as → mo_M M M' r ∧ sp_c mi fr lo G as M r M'
def cx_C (mi : mi_T) (G : gl_T) (p : Program) (l : Launch) (s : State) (m : MethodId) (args : Array Value) (meth : Method) (c : Code) : Prop :=
  p.tables.exec = Jvm.exec ∧ c.code = mi_cc mi ∧ c.maxLocals = mi_nL mi ∧ meth.sig.returnType = mi_ret mi ∧ meth.locks = false ∧ s.vm.findClass (mi_own mi) = some m.cls ∧ (∀ w ∈ tb_G, w.before args s = true) ∧ gf_g G s ∧
  l.stackTraces = false ∧ c.exceptionTable.toList = tableOf (mi_hh mi) ∧ meth.name = (mi_y mi).name ∧ mi_ok mi
def qq_Q (below : List Frame) (G : gl_T) (ad0 : Nat → Nat) (M0 : mm_T) (r : rs_T) (M' : mm_T) (args : Array Value) (s : State) (mc ms : Nat) : State → Prop := match r with
  | .inl ov => MQ below (qc_Q G ad0 M0 ov M') args s mc ms (gl_f G)
  | .inr E => vx_MQ below no_Q (xc_X G ad0 M0 E M') args s mc ms (gl_f G)
/-- from this place of the method, with these variables, this stack and this memory, it comes to its end with r and M' -/
def wp_W (mi : mi_T) (fr lo : Nat) (G : gl_T) (M0 : mm_T) (r : rs_T) (M' : mm_T) (pc : Nat) (L : List (Option Value)) (S : List Value) (M : mm_T) : Prop :=
  mm_wf M → ok_L M L → ok_S M S → mo_M M M' r ∧
  ∀ (p : Program) (l : Launch) (e : Env) (R : Room) (s : State) (m : MethodId) (args : Array Value) (below : List Frame) (meth : Method) (c : Code) (H : Heap) (locs : List Loc) (ls : Array Slot) (ad ad0 : Nat → Nat),
    cx_C mi G p l s m args meth c → fr ≤ R.frames → lo ≤ R.locals → mm_c M' - mm_c M0 ≤ R.cells → mm_u M' - mm_u M0 ≤ R.slots → mm_n M0 ≤ mm_n M → mm_c M0 ≤ mm_c M → mm_u M0 ≤ mm_u M →
    ex_a ad0 ad M0 → wr_h G ad M H → lv_has ls (mi_nL mi) (lv_l G ad 0 L) → va_S (gl_f G) s.heap H locs →
    W p l e R s m args below meth c H locs (mm_c M - mm_c M0) (mm_u M - mm_u M0) (qq_Q below G ad0 M0 r M' args s (mm_c M' - mm_c M0) (mm_u M' - mm_u M0)) (F0 m pc ls (S.map (cv_v G ad)))
def im_I (mi : mi_T) (fr lo : Nat) (G : gl_T) (M0 : mm_T) {ρ : Type} (f : ρ → rs_T × mm_T) (X : Option ρ) (pc : Nat) (L : List (Option Value)) (S : List Value) (M : mm_T) : Prop :=
  ∀ x, X = some x → wp_W mi fr lo G M0 (f x).1 (f x).2 pc L S M
section WP
variable {mi : mi_T} {fr lo : Nat} {G : gl_T} {M0 : mm_T} {r : rs_T} {M' : mm_T} {L L' : List (Option Value)} {S S' : List Value} {M : mm_T}
theorem mi_at {pc len : Nat} {i : Instr} (h : mi_ok mi) {k : Nat} (hk : (mi_tb mi)[k]? = some (pc, i, len)) : decode (mi_cc mi) pc = .ok (i, len) := by
  have q := h (pc, i, len) (List.mem_of_getElem? hk)
  exact q
/-- a step that leaves the heap as it is -/
theorem wp_step {pc pc' : Nat} (hok : ok_L M L → ok_S M S → ok_L M L' ∧ ok_S M S')
    (h : ∀ (p : Program) (l : Launch) (e : Env) (R : Room) (s : State) (m : MethodId) (args : Array Value) (below : List Frame) (meth : Method) (c : Code) (H : Heap) (locs : List Loc) (cells slots : Nat) (Q : State → Prop) (ls : Array Slot) (ad : Nat → Nat),
      p.tables.exec = Jvm.exec → c.code = mi_cc mi → mi_ok mi → s.vm.findClass (mi_own mi) = some m.cls → (∀ w ∈ tb_G, w.before args s = true) → gf_g G s → ok_S M S → lv_has ls (mi_nL mi) (lv_l G ad 0 L) →
      (∀ ls' : Array Slot, lv_has ls' (mi_nL mi) (lv_l G ad 0 L') → W p l e R s m args below meth c H locs cells slots Q (F0 m pc' ls' (S'.map (cv_v G ad)))) → W p l e R s m args below meth c H locs cells slots Q (F0 m pc ls (S.map (cv_v G ad))))
    (k : wp_W mi fr lo G M0 r M' pc' L' S' M) : wp_W mi fr lo G M0 r M' pc L S M := by
  intro hw hL hS
  obtain ⟨hL', hS'⟩ := hok hL hS
  obtain ⟨k1, k2⟩ := k hw hL' hS'
  refine ⟨k1, ?_⟩
  intro p l e R s m args below meth c H locs ls ad ad0 hc a1 a2 a3 a4 a5 a6 a7 a8 a9 a10 a11
  obtain ⟨c1, c2, c3, c4, c5, c6, c7, c8, c9, c10, c11, c12⟩ := id hc
  exact h p l e R s m args below meth c H locs _ _ _ ls ad c1 c2 c12 c6 c7 c8 hS a10 (fun ls' hl' => k2 p l e R s m args below meth c H locs ls' ad ad0 hc a1 a2 a3 a4 a5 a6 a7 a8 a9 hl' a11)
/-- fewer variables known -/
theorem wp_less {pc : Nat} (hl : lv_le L' L = true) (k : wp_W mi fr lo G M0 r M' pc L' S M) : wp_W mi fr lo G M0 r M' pc L S M :=
  wp_step (L' := L') (S' := S) (fun hL hS => ⟨fun v hv => by
      obtain ⟨j, hj⟩ := List.getElem?_of_mem hv
      exact hL v (List.mem_of_getElem? (lv_le_get hl hj)), hS⟩)
    (fun p l e R s m args below meth c H locs cells slots Q ls ad _ _ _ _ _ _ _ hls kk => kk ls (hls.less fun q hq => by
      obtain ⟨j, v, hj, e⟩ := (lv_l_iff _ _ _).mp hq
      exact (lv_l_iff _ _ _).mpr ⟨j, v, lv_le_get hl hj, e⟩)) k
end WP
