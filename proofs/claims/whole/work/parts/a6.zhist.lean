/-! ===== the class: its history and snapshots ===== -/
def zy_r (M : mm_T) (j : Nat) : Nat := if j < 6 then mm_R M 16 j else mm_R M 17 (j - 6)
/-- the programs that were made on demand -/
def zy_D (M : mm_T) : Prop := (mm_k M 15 = (3, 0) ∧ mm_R M 15 0 = 16 ∧ mm_k M 16 = (23, 6) ∧ mm_k M 17 = (23, 2)) ∧ (∀ j, j < 8 → zy_r M j ≠ 0 → 64 ≤ zy_r M j ∧ zy_r M j + 6 ≤ mm_n M ∧ zo_P M (zy_r M j)) ∧ ∀ i j, i < 8 → j < 8 → i ≠ j → zy_r M i ≠ 0 → zy_r M j ≠ 0 → zy_r M i + 6 < zy_r M j ∨ zy_r M j + 6 < zy_r M i
def zy_U (M : mm_T) (U : Nat → zp_T) (n : Nat) : Prop := ∃ x, x < 6 ∧ mm_I M 15 1 = nI x ∧ n ≤ 6 ∧ mm_I M 15 2 = nI n ∧ ∀ k, k < n → mm_R M 16 ((x + 5 - k) % 6) ≠ 0 ∧ zo_H M (mm_R M 16 ((x + 5 - k) % 6)) (U k) ∧ zp_V (U k)
def zy_S (M : mm_T) (j : Nat) (o : Option zp_T) : Prop := match o with
  | none => mm_R M 17 j = 0
  | some P => mm_R M 17 j ≠ 0 ∧ zo_H M (mm_R M 17 j) P ∧ zp_V P
/-- layout of parser and writer; the text; the error; the output -/
def zy_p (M : mm_T) : Prop := mm_k M 9 = (6, 0) ∧ (mm_R M 9 0 = 10 ∧ mm_R M 9 8 = 11 ∧ mm_R M 9 9 = 12) ∧ mm_k M 10 = (20, 700) ∧ mm_k M 11 = (20, 12) ∧ mm_k M 12 = (20, 12)
def zy_w (M : mm_T) : Prop := mm_k M 13 = (9, 0) ∧ mm_R M 13 0 = 14 ∧ mm_k M 14 = (20, 704)
def zy_x (M : mm_T) (tx : (Nat → Nat) × Nat) : Prop := mm_I M 9 1 = nI tx.2 ∧ tx.2 ≤ 700 ∧ ∀ i, i < tx.2 → mm_I M 10 i = nI (tx.1 i) ∧ tx.1 i < 256
def zy_e (M : mm_T) (e : Nat × Int32) : Prop := mm_I M 9 2 = nI e.1 ∧ mm_I M 9 3 = e.2
def zy_o (M : mm_T) (ow : (Nat → Nat) × Nat) : Prop := mm_I M 13 1 = nI ow.2 ∧ ow.2 ≤ 700 ∧ ∀ i, i < ow.2 → mm_I M 14 i = nI (ow.1 i)
/-- a state: program, undo stack, snapshots, text, error, output -/
abbrev zy_T : Type := zp_T × ((Nat → zp_T) × Nat) × (Option zp_T × Option zp_T) × ((Nat → Nat) × Nat) × (Nat × Int32) × ((Nat → Nat) × Nat)
def zy_P (s : zy_T) : zp_T := s.1
def zy_u (s : zy_T) : (Nat → zp_T) × Nat := s.2.1
def zy_n (s : zy_T) : Option zp_T × Option zp_T := s.2.2.1
def zy_t (s : zy_T) : (Nat → Nat) × Nat := s.2.2.2.1
def zy_c (s : zy_T) : Nat × Int32 := s.2.2.2.2.1
def zy_v (s : zy_T) : (Nat → Nat) × Nat := s.2.2.2.2.2
/-- all of the class but the program and its analyses -/
def zy_B (M : mm_T) (s : zy_T) : Prop := 63 ≤ mm_n M ∧ (zk_N M ∧ zy_p M ∧ zy_w M ∧ zo_P M 2) ∧ zy_D M ∧ zy_U M (zy_u s).1 (zy_u s).2 ∧ (zy_S M 0 (zy_n s).1 ∧ zy_S M 1 (zy_n s).2) ∧ zy_x M (zy_t s) ∧ zy_e M (zy_c s) ∧ zy_o M (zy_v s)
def zy_C (M : mm_T) (s : zy_T) : Prop := zy_B M s ∧ zc_Q M (zy_P s)
/-! what stays as it is -/
theorem zo_P.keepX {M M' : mm_T} {A : Nat → Prop} {k u t : Nat} (h : zo_P M t) (ht : t + 6 ≤ mm_n M) (f : zf_X M M' A k u) : zo_P M' t := by
  obtain ⟨h1, ⟨a1, a2, a3, a4, a5, a6⟩, h2, h3, h4, h5, h6, h7⟩ := h
  exact ⟨(zu_k f (by omega)).trans h1, ⟨(zu_R f (by omega) 2).trans a1, (zu_R f (by omega) 3).trans a2, (zu_R f (by omega) 4).trans a3, (zu_R f (by omega) 5).trans a4, (zu_R f (by omega) 6).trans a5, (zu_R f (by omega) 7).trans a6⟩, (zu_k f (by omega)).trans h2, (zu_k f (by omega)).trans h3, (zu_k f (by omega)).trans h4, (zu_k f (by omega)).trans h5, (zu_k f (by omega)).trans h6, (zu_k f (by omega)).trans h7⟩
theorem zy_D.keepX {M M' : mm_T} {A : Nat → Prop} {k u : Nat} (h : zy_D M) (h63 : 63 ≤ mm_n M) (f : zf_X M M' A k u) : zy_D M' := by
  have er : ∀ j, zy_r M' j = zy_r M j := fun j => by unfold zy_r; rw [zu_R f (by omega), zu_R f (by omega)]
  obtain ⟨⟨a1, a2, a3, a4⟩, h2, h3⟩ := h
  refine ⟨⟨(zu_k f (by omega)).trans a1, (zu_R f (by omega) 0).trans a2, (zu_k f (by omega)).trans a3, (zu_k f (by omega)).trans a4⟩, fun j hj => ?_, fun i j hi hj hij => ?_⟩
  · rw [er]
    intro z
    obtain ⟨b1, b2, b3⟩ := h2 j hj z
    have := f.1
    exact ⟨b1, by omega, b3.keepX b2 f⟩
  · rw [er, er]
    exact h3 i j hi hj hij
theorem zy_U.keepX {M M' : mm_T} {A : Nat → Prop} {k u : Nat} {U : Nat → zp_T} {n : Nat} (h : zy_U M U n) (hD : zy_D M) (h63 : 63 ≤ mm_n M) (f : zf_X M M' A k u) (hA : ∀ a, a ≤ mm_n M → A a → a ≠ 15 ∧ a < 64) : zy_U M' U n := by
  obtain ⟨x, h1, h2, h3, h4, h5⟩ := h
  refine ⟨x, h1, ?_, h3, ?_, fun k hk => ?_⟩
  · rw [zu_i f (by omega) (fun z => by have := hA _ (by omega) z; omega)]; exact h2
  · rw [zu_i f (by omega) (fun z => by have := hA _ (by omega) z; omega)]; exact h4
  · rw [zu_R f (by omega)]
    obtain ⟨b1, b2, b3⟩ := h5 k hk
    have er : mm_R M 16 ((x + 5 - k) % 6) = zy_r M ((x + 5 - k) % 6) := by unfold zy_r; rw [if_pos (Nat.mod_lt _ (by omega))]
    obtain ⟨c1, c2, c3⟩ := hD.2.1 ((x + 5 - k) % 6) (by have := Nat.mod_lt (x + 5 - k) (show 0 < 6 by omega); omega) (by rw [← er]; exact b1)
    rw [← er] at c1 c2 c3
    exact ⟨b1, b2.keep (fun a q1 q2 j => zu_i f (by omega) (fun z => by have := hA _ (by omega) z; omega) j), b3⟩
theorem zy_S.keepX {M M' : mm_T} {A : Nat → Prop} {k u j : Nat} {o : Option zp_T} (h : zy_S M j o) (hj : j < 2) (hD : zy_D M) (h63 : 63 ≤ mm_n M) (f : zf_X M M' A k u) (hA : ∀ a, a ≤ mm_n M → A a → a < 64) : zy_S M' j o := by
  cases o with
  | none => exact (zu_R f (by omega) j).trans h
  | some P =>
    obtain ⟨b1, b2, b3⟩ := h
    have er : mm_R M 17 j = zy_r M (6 + j) := by unfold zy_r; rw [if_neg (by omega), Nat.add_sub_cancel_left]
    obtain ⟨c1, c2, c3⟩ := hD.2.1 (6 + j) (by omega) (by rw [← er]; exact b1)
    rw [← er] at c1 c2 c3
    refine ⟨by rw [zu_R f (by omega)]; exact b1, ?_, b3⟩
    rw [zu_R f (by omega)]
    exact b2.keep (fun a q1 q2 j => zu_i f (by omega) (fun z => by have := hA _ (by omega) z; omega) j)
theorem zy_B.keepX {M M' : mm_T} {A : Nat → Prop} {k u : Nat} {s : zy_T} (h : zy_B M s) (f : zf_X M M' A k u) (hA : ∀ a, a ≤ mm_n M → A a → 18 ≤ a ∧ a ≤ 63) : zy_B M' s := by
  obtain ⟨h63, ⟨n1, n2, n3, n4⟩, hD, hU, ⟨s0, s1⟩, hx, he, ho⟩ := h
  have e : ∀ a, a < 18 → ∀ j, mm_I M' a j = mm_I M a j := fun a ha j => zu_i f (by omega) (fun z => by have := hA _ (by omega) z; omega) j
  refine ⟨by have := f.1; omega, ⟨n1.keepL (zl_X f h63), ?_, ?_, n4.keepX (by omega) f⟩, hD.keepX h63 f, hU.keepX hD h63 f (fun a z y => by have := hA a z y; omega), ⟨s0.keepX (by omega) hD h63 f (fun a z y => by have := hA a z y; omega), s1.keepX (by omega) hD h63 f (fun a z y => by have := hA a z y; omega)⟩, ?_, ?_, ?_⟩
  · obtain ⟨a1, ⟨a2, a3, a4⟩, a5, a6, a7⟩ := n2
    exact ⟨(zu_k f (by omega)).trans a1, ⟨(zu_R f (by omega) 0).trans a2, (zu_R f (by omega) 8).trans a3, (zu_R f (by omega) 9).trans a4⟩, (zu_k f (by omega)).trans a5, (zu_k f (by omega)).trans a6, (zu_k f (by omega)).trans a7⟩
  · obtain ⟨a1, a2, a3⟩ := n3
    exact ⟨(zu_k f (by omega)).trans a1, (zu_R f (by omega) 0).trans a2, (zu_k f (by omega)).trans a3⟩
  · exact ⟨(e 9 (by omega) 1).trans hx.1, hx.2.1, fun i hi => ⟨(e 10 (by omega) i).trans (hx.2.2 i hi).1, (hx.2.2 i hi).2⟩⟩
  · exact ⟨(e 9 (by omega) 2).trans he.1, (e 9 (by omega) 3).trans he.2⟩
  · exact ⟨(e 13 (by omega) 1).trans ho.1, ho.2.1, fun i hi => (e 14 (by omega) i).trans (ho.2.2 i hi)⟩
/-- what the reference does leaves the class -/
theorem zy_C.keepR {M M' : mm_T} {A : Nat → Prop} {k u : Nat} {s : zy_T} (h : zy_C M s) (f : zf_X M M' A k u) (hA : ∀ a, a ≤ mm_n M → A a → 52 ≤ a ∧ a ≤ 63) : zy_C M' s :=
  ⟨h.1.keepX f (fun a z y => by have := hA a z y; omega), h.2.keepL (A := fun a => A a ∧ a ≤ 63) ⟨fun a ha => ⟨zu_k f (by have := h.1.1; omega), fun j => zu_R f (by have := h.1.1; omega) j⟩, fun a ha z j => ⟨zu_i f (by have := h.1.1; omega) (fun y => z ⟨y, ha⟩) j, zu_j f (by have := h.1.1; omega) (fun y => z ⟨y, ha⟩) j⟩⟩ (fun a z => by have := hA a (by have := h.1.1; omega) z.1; omega)⟩
/-- a question to the class leaves the rest -/
theorem zy_C.quest {M M' : mm_T} {k u : Nat} {s : zy_T} (h : zy_C M s) (f : zf_X M M' zc_A k u) (q : zc_Q M' (zy_P s)) : zy_C M' s := ⟨h.1.keepX f (fun a _ y => by unfold zc_A at y; omega), q⟩
/-! the program without its analyses; they are forgotten -/
def zc_Z (M : mm_T) (P : zp_T) : Prop := zk_D M ∧ (zo_P M 45 ∧ zo_H M 45 P ∧ zp_V P) ∧ (zk_G M ∧ zk_R M ∧ zk_L M ∧ zk_A M ∧ zk_C M)
theorem zc_Q.z {M : mm_T} {P : zp_T} (h : zc_Q M P) : zc_Z M P := ⟨h.1, h.2.1, h.2.2.1⟩
theorem zc_Z.edit {M M' : mm_T} {P P' : zp_T} (h : zc_Z M P) (f : zf_F M M' (zo_A 45)) (hH : zo_H M' 45 P') (hV : zp_V P') : zc_Z M' P' := by
  obtain ⟨h1, ⟨h2, h3, h4⟩, ⟨g1, g2, g3, g4, g5⟩⟩ := h
  have hl := zl_F f
  exact ⟨h1.keepL hl, ⟨h2.keepL (by omega) hl, hH, hV⟩, g1.keepL hl, g2.keepL hl, g3.keepL hl, g4.keepL hl, g5.keepL hl⟩
def zf_5 (a : Nat) : Prop := a = 18 ∨ a = 24 ∨ a = 28 ∨ a = 31 ∨ a = 35
theorem zc_Z.keep5 {M M' : mm_T} {P : zp_T} (h : zc_Z M P) (f : zf_F M M' zf_5) : zc_Z M' P := by
  obtain ⟨h1, ⟨h2, h3, h4⟩, ⟨g1, g2, g3, g4, g5⟩⟩ := h
  have hl := zl_F f
  exact ⟨h1.keepL hl, ⟨h2.keepL (by omega) hl, h3.keep (fun a q1 q2 j => zf_i f (by unfold zf_5; omega) j), h4⟩, g1.keepL hl, g2.keepL hl, g3.keepL hl, g4.keepL hl, g5.keepL hl⟩
theorem zc_forget {M : mm_T} {P : zp_T} (h : zc_Z M P) : ∃ M', ff_D_forgetAnalyses 1 M = some M' ∧ zf_F M M' zf_5 ∧ zc_Q M' P := by
  have f1 : zf_F M (mm_sI M 18 0 0) zf_5 := zf_I (by unfold zf_5; omega) _ _
  have z1 := h.keep5 f1
  have f2 : zf_F M (mm_sI (mm_sI M 18 0 0) 24 0 0) zf_5 := zf_tr f1 (zf_I (by unfold zf_5; omega) _ _)
  have z2 := h.keep5 f2
  have f3 : zf_F M (mm_sI (mm_sI (mm_sI M 18 0 0) 24 0 0) 28 0 0) zf_5 := zf_tr f2 (zf_I (by unfold zf_5; omega) _ _)
  have z3 := h.keep5 f3
  have f4 : zf_F M (mm_sI (mm_sI (mm_sI (mm_sI M 18 0 0) 24 0 0) 28 0 0) 31 0 0) zf_5 := zf_tr f3 (zf_I (by unfold zf_5; omega) _ _)
  have z4 := h.keep5 f4
  have f5 : zf_F M (mm_sI (mm_sI (mm_sI (mm_sI (mm_sI M 18 0 0) 24 0 0) 28 0 0) 31 0 0) 35 0 0) zf_5 := zf_tr f4 (zf_I (by unfold zf_5; omega) _ _)
  have z5 := h.keep5 f5
  have e1 : ∀ {N : mm_T}, zc_Z N P → (mm_k N 1).1 = 10 := fun z => by rw [z.1.1]
  unfold ff_D_forgetAnalyses
  rw [zq_gd (e1 h), zg_R (e1 h), Option.bind_some, h.1.2.2.2.2.2.2.2.1, zp_Z0 (by rw [h.2.2.1.1]), Option.bind_some, zg_R (e1 z1), Option.bind_some, z1.1.2.2.2.2.2.2.2.2.1, zp_Z0 (by rw [z1.2.2.2.1.1]), Option.bind_some, zg_R (e1 z2), Option.bind_some, z2.1.2.2.2.2.2.2.2.2.2.1, zp_Z0 (by rw [z2.2.2.2.2.1.1]), Option.bind_some, zg_R (e1 z3), Option.bind_some, z3.1.2.2.2.2.2.2.2.2.2.2.1, zp_Z0 (by rw [z3.2.2.2.2.2.1.1]), Option.bind_some, zg_R (e1 z4), Option.bind_some, z4.1.2.2.2.2.2.2.2.2.2.2.2.1, zp_Z0 (by rw [z4.2.2.2.2.2.2.1]), Option.bind_some]
  refine ⟨_, rfl, f5, z5.1, z5.2.1, z5.2.2, Or.inl ?_, Or.inl ?_, Or.inl ?_, Or.inl ?_, Or.inl ?_⟩
  · rw [zm_II, if_neg (by omega), zm_II, if_neg (by omega), zm_II, if_neg (by omega), zm_II, if_neg (by omega), zm_II, if_pos ⟨rfl, rfl⟩]
  · rw [zm_II, if_neg (by omega), zm_II, if_neg (by omega), zm_II, if_neg (by omega), zm_II, if_pos ⟨rfl, rfl⟩]
  · rw [zm_II, if_neg (by omega), zm_II, if_neg (by omega), zm_II, if_pos ⟨rfl, rfl⟩]
  · rw [zm_II, if_neg (by omega), zm_II, if_pos ⟨rfl, rfl⟩]
  · rw [zm_II, if_pos ⟨rfl, rfl⟩]
