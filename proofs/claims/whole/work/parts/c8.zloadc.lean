/-! ===== the class loads a program ===== -/
def zv_load (s : zy_T) : Int32 × zy_T := match zT_parse (zy_t s) with
  | .inl Q => (nI (zp_nb Q), zy_put (zy_prs s ((zy_t s).1, 0) (0, -1)) Q)
  | .inr a => (-1, zy_prs s ((zy_t s).1, 0) (a.1, nI a.2))
theorem zy_loadProgram {M : mm_T} {s : zy_T} (h : zy_C M s) : ∃ M', ff_D_loadProgram 1 M = some ((zv_load s).1, M') ∧ zy_Y M M' zy_A 100 2000 ∧ zy_C M' (zv_load s).2 := by
  have hp := h.1.2.1.2.1
  have hP := h.1.2.1.2.2.2
  have hx := h.1.2.2.2.2.2.1
  have e1 := zc_e1 h.2
  obtain ⟨v, M1, e, g⟩ := zQ_parse hp hP hx
  -- the text is emptied
  have emp : zf_F M M1 zy_Ap → zy_x M1 (zy_t s) → ∀ c : Nat × Int32, zy_e M1 c → ∃ M2, ((gf_R M1 1 10 2).bind fun x4 => ff_S_clearBuffer x4 M1) = some M2 ∧ zf_F M M2 zy_Ap ∧ (∀ a k, 2 ≤ a → a ≤ 8 → mm_I M2 a k = mm_I M1 a k) ∧ zy_C M2 (zy_prs s ((zy_t s).1, 0) c) := by
    intro f x c hc
    have e9 := zP_e9 (hp.keep f)
    have r : (mm_k M1 1).1 = 10 := by rw [zf_k f]; exact e1
    have rr : mm_R M1 1 2 = 9 := by rw [zf_R f]; exact h.2.1.2.2.2.1
    have f2 : zf_F M (mm_sI M1 9 1 0) zy_Ap := zf_tr f (zf_I (by unfold zy_Ap; omega) _ _)
    rw [zg_R r, Option.bind_some, rr]
    unfold ff_S_clearBuffer
    rw [zq_gd e9, zp_I e9, Option.bind_some]
    refine ⟨_, rfl, f2, fun a k q1 q2 => by rw [zm_II, if_neg (by omega)], h.parser f2 ⟨?_, Nat.zero_le _, fun i hi => absurd hi (Nat.not_lt_zero _)⟩ ⟨?_, ?_⟩⟩
    · rw [zm_II, if_pos ⟨rfl, rfl⟩]; rfl
    · rw [zm_II, if_neg (by omega)]; exact hc.1
    · rw [zm_II, if_neg (by omega)]; exact hc.2
  have eA : ∀ {β : Type} (X : Option Nat) (N : mm_T) (K : mm_T → Option β), (X.bind fun x4 => (ff_S_clearBuffer x4 N).bind K) = (X.bind fun x4 => ff_S_clearBuffer x4 N).bind K := fun X N K => by cases X <;> rfl
  unfold ff_D_loadProgram zv_load bd_2
  rw [zq_gd e1, zg_R e1, Option.bind_some, h.2.1.2.2.2.1, zg_R e1, Option.bind_some, h.2.1.2.2.1, e, Option.bind_some]
  show ∃ M', ((gf_R M1 1 10 2).bind fun x4 => (ff_S_clearBuffer x4 M1).bind _) = _ ∧ _
  rw [eA]
  cases er : zT_parse (zy_t s) with
  | inl Q =>
    rw [er] at g
    obtain ⟨rfl, f, x, c2, c3, hH, hV⟩ := g
    obtain ⟨M2, e2, f2, k2, C2⟩ := emp f x (0, -1) ⟨c2, c3⟩
    obtain ⟨M3, e3, y3, C3⟩ := zy_replace C2 (u := 2) (hP.keep f2) (Or.inl (by omega)) (hH.keep (fun a q1 q2 k => k2 a k q1 q2)) hV
    have r2 := zc_e1 C2.2
    have r3 := zc_e1 C3.2
    have nb3 : mm_I M3 45 0 = nI (zp_nb Q) := C3.2.2.1.2.1.1
    rw [e2, Option.bind_some, if_neg (show ¬ (1 : Int32) = 0 by decide), zg_R r2, Option.bind_some, C2.2.1.2.2.1, e3, Option.bind_some, zg_R r3, Option.bind_some, C3.2.1.2.1, zg_I (zo_e C3.2.2.1.1), Option.bind_some, nb3]
    exact ⟨M3, rfl, zy_Ywk (zy_Ytr (zy_ApY f2) y3) (by omega) (by omega) (fun a _ z => z), C3⟩
  | inr a =>
    rw [er] at g
    obtain ⟨rfl, f, x, c2, c3, _⟩ := g
    obtain ⟨M2, e2, f2, k2, C2⟩ := emp f x (a.1, nI a.2) ⟨c2, c3⟩
    rw [e2, Option.bind_some, if_pos rfl]
    exact ⟨M2, rfl, zy_Ywk (zy_ApY f2) (by omega) (by omega) (fun a _ z => z), C2⟩
