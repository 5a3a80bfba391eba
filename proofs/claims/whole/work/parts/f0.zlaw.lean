/-! ===== the law: a call of the class, with its answer in out[0] (cell 63) ===== -/
def zl_Z (X : Option (Int32 × mm_T)) (M : mm_T) (f : (Nat × Int32) × zy_T) : Prop := ∃ M', X = some (nI f.1.1, M') ∧ zy_Y M M' (fun a => zy_A a ∨ a = 63) 100 2000 ∧ zy_C M' f.2 ∧ f.1.1 ≤ 3 ∧ (f.1.1 = 0 → mm_J M' 63 0 = f.1.2.toInt64)
theorem zl_put {M : mm_T} {s : zy_T} {n : Nat} (h : zy_C M s) (hk : mm_k M 63 = (21, n)) (hn : 0 < n) (hn2 : n < 2 ^ 31) (v : Int64) : ∃ M', aw_J M 63 0 v = some M' ∧ zy_Y M M' (fun a => a = 63) 0 0 ∧ zy_C M' s ∧ mm_J M' 63 0 = v := by
  have f : zf_X M (mm_sJ M 63 0 v) (fun a => a = 63) 0 0 := by
    refine ⟨Nat.le_refl _, Nat.le_refl _, Nat.le_refl _, Nat.le_refl _, fun a _ => ⟨rfl, fun _ => rfl⟩, fun a _ hA j => ⟨rfl, ?_⟩⟩
    show mm_u2 (mm_J M) 63 0 v a j = mm_J M a j
    unfold mm_u2
    rw [if_neg (fun z => hA z.1)]
  refine ⟨mm_sJ M 63 0 v, zw_J hk hn hn2 v, zy_YX f, h.keepR f (fun a _ z => by omega), ?_⟩
  show mm_u2 (mm_J M) 63 0 v 63 0 = v
  unfold mm_u2
  rw [if_pos ⟨rfl, rfl⟩]
theorem zl_cs {Es : List String} {X : Option ((Int32 ⊕ String) × mm_T)} {M : mm_T} {f : (Nat × Int32) × zy_T} {n : Nat} (h : zy_Of Es X M f) (h63 : 63 ≤ mm_n M) (hk : mm_k M 63 = (21, n)) (hn : 0 < n) (hn2 : n < 2 ^ 31) (hc : f.1.1 ≤ Es.length) (h3 : Es.length ≤ 3) {kx : String → mm_T → Option (Int32 × mm_T)} (hkx : ∀ i, i < Es.length → ∀ N, kx (Es.getD i "") N = some (nI (i + 1), N)) : zl_Z (cs_X X (fun x1 M1 => (aw_J M1 63 (0 : Int32) ((x1).toInt64)).bind fun M2 => some ((0 : Int32), M2)) kx) M f := by
  obtain ⟨M', e, y, c⟩ := h
  have yk : mm_k M' 63 = (21, n) := (zy_Yk y h63).trans hk
  have y' : zy_Y M M' (fun a => zy_A a ∨ a = 63) 100 2000 := zy_Ywk y (Nat.le_refl _) (Nat.le_refl _) (fun a _ z => Or.inl z)
  unfold cs_X
  rw [e, Option.bind_some]
  unfold zr_c
  by_cases c0 : f.1.1 = 0
  · rw [if_pos c0]
    obtain ⟨M2, e2, y2, c2, v2⟩ := zl_put c yk hn hn2 (f.1.2.toInt64)
    show zl_Z ((aw_J M' 63 (0 : Int32) (f.1.2.toInt64)).bind fun M2 => some ((0 : Int32), M2)) M f
    rw [e2, Option.bind_some]
    exact ⟨M2, by rw [c0]; rfl, zy_Ywk (zy_Ytr y' (zy_Ywk y2 (Nat.le_refl _) (Nat.le_refl _) (fun a _ z => Or.inr z))) (by omega) (by omega) (fun a _ z => z), c2, Nat.le_trans hc h3, fun _ => v2⟩
  · rw [if_neg c0]
    show zl_Z (kx (Es.getD (f.1.1 - 1) "") M') M f
    rw [hkx _ (by omega)]
    exact ⟨M', by rw [show f.1.1 - 1 + 1 = f.1.1 by omega], y', c, Nat.le_trans hc h3, fun z => absurd z c0⟩
/-- one exception is told -/
theorem zl_k1 (E : String) : ∀ i, i < [E].length → ∀ N, (fun (E' : String) (M1 : mm_T) => if E' = E then (some ((1 : Int32), M1)) else none) ([E].getD i "") N = some (nI (i + 1), N) := by
  intro i hi N
  have hi' : i < 1 := hi
  obtain rfl : i = 0 := by omega
  show (if E = E then _ else _) = _
  rw [if_pos rfl]
  rfl
theorem zl_appendText {M : mm_T} {s : zy_T} {n : Nat} (h : zy_C M s) (hk : mm_k M 63 = (21, n)) (hn : 0 < n) (hn2 : n < 2 ^ 31) (w : Int32) : zl_Z (ff_Z_appendText 1 w 63 M) M (zv_appendText s w) := by
  refine zl_cs (zy_appendText h w) h.1.1 hk hn hn2 ?_ (by decide) (zl_k1 _)
  unfold zv_appendText
  split
  · exact Nat.zero_le _
  · exact Nat.le_refl 1
theorem zl_undo {M : mm_T} {s : zy_T} {n : Nat} (h : zy_C M s) (hk : mm_k M 63 = (21, n)) (hn : 0 < n) (hn2 : n < 2 ^ 31) : zl_Z (ff_Z_undo 1 63 M) M (if (zy_u s).2 = 0 then ((1, 0), s) else ((0, nI ((zy_u s).2 - 1)), zy_back s)) := by
  have u : zy_Of ["java/lang/IllegalStateException"] (ff_D_undo 1 M) M (if (zy_u s).2 = 0 then ((1, 0), s) else ((0, nI ((zy_u s).2 - 1)), zy_back s)) := by
    have := zy_undo h
    unfold zy_Of zr_c
    by_cases c : (zy_u s).2 = 0
    · rw [if_pos c] at this ⊢; rw [if_pos c] at this; rw [if_neg (by show ¬ (1 : Nat) = 0; omega)]; exact this
    · rw [if_neg c] at this ⊢; rw [if_neg c] at this; rw [if_pos rfl]; exact this
  refine zl_cs u h.1.1 hk hn hn2 ?_ (by decide) (zl_k1 _)
  split
  · exact Nat.le_refl 1
  · exact Nat.zero_le _
