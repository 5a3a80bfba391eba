/-! ===== the law: every call of the class that can throw ===== -/
theorem zl_01 (b : Bool) : zb_B b = 0 ∨ zb_B b = 1 := by cases b; exact Or.inl rfl; exact Or.inr rfl
theorem zl_csB {Es : List String} {X : Option ((Int32 ⊕ String) × mm_T)} {M : mm_T} {f : (Nat × Int32) × zy_T} {n : Nat} (h : zy_Of Es X M f) (h63 : 63 ≤ mm_n M) (hk : mm_k M 63 = (21, n)) (hn : 0 < n) (hn2 : n < 2 ^ 31) (hc : f.1.1 ≤ Es.length) (h3 : Es.length ≤ 3) (hb : f.1.1 = 0 → f.1.2 = 0 ∨ f.1.2 = 1) {kx : String → mm_T → Option (Int32 × mm_T)} (hkx : ∀ i, i < Es.length → ∀ N, kx (Es.getD i "") N = some (nI (i + 1), N)) : zl_Z (cs_X X (fun x1 M1 => jp_J (α := Int64 → Option (Int32 × mm_T)) (fun (x2 : Int64) => (aw_J M1 63 (0 : Int32) x2).bind fun M2 => some ((0 : Int32), M2)) fun j15 => if x1 = 0 then (j15 (0 : Int64)) else (j15 (1 : Int64))) kx) M f ∧ (f.1.1 = 0 → f.1.2 = 0 ∨ f.1.2 = 1) := by
  refine ⟨?_, hb⟩
  obtain ⟨M', e, y, c⟩ := h
  have yk : mm_k M' 63 = (21, n) := (zy_Yk y h63).trans hk
  have y' : zy_Y M M' (fun a => zy_A a ∨ a = 63) 100 2000 := zy_Ywk y (Nat.le_refl _) (Nat.le_refl _) (fun a _ z => Or.inl z)
  unfold cs_X
  rw [e, Option.bind_some]
  unfold zr_c
  by_cases c0 : f.1.1 = 0
  · rw [if_pos c0]
    obtain ⟨M2, e2, y2, c2, v2⟩ := zl_put c yk hn hn2 (f.1.2.toInt64)
    have key : (if f.1.2 = 0 then (aw_J M' 63 (0 : Int32) (0 : Int64)).bind fun M2 => some ((0 : Int32), M2) else (aw_J M' 63 (0 : Int32) (1 : Int64)).bind fun M2 => some ((0 : Int32), M2)) = some ((0 : Int32), M2) := by
      rcases hb c0 with z | z
      · rw [z] at e2
        have e2' : aw_J M' 63 (0 : Int32) (0 : Int64) = some M2 := e2
        rw [if_pos z, e2', Option.bind_some]
      · rw [z] at e2
        have e2' : aw_J M' 63 (0 : Int32) (1 : Int64) = some M2 := e2
        rw [if_neg (by rw [z]; decide), e2', Option.bind_some]
    show zl_Z (if f.1.2 = 0 then (aw_J M' 63 (0 : Int32) (0 : Int64)).bind fun M2 => some ((0 : Int32), M2) else (aw_J M' 63 (0 : Int32) (1 : Int64)).bind fun M2 => some ((0 : Int32), M2)) M f
    rw [key]
    exact ⟨M2, by rw [c0]; rfl, zy_Ywk (zy_Ytr y' (zy_Ywk y2 (Nat.le_refl _) (Nat.le_refl _) (fun a _ z => Or.inr z))) (by omega) (by omega) (fun a _ z => z), c2, Nat.le_trans hc h3, fun _ => v2⟩
  · rw [if_neg c0]
    show zl_Z (kx (Es.getD (f.1.1 - 1) "") M') M f
    rw [hkx _ (by omega)]
    exact ⟨M', by rw [show f.1.1 - 1 + 1 = f.1.1 by omega], y', c, Nat.le_trans hc h3, fun z => absurd z c0⟩
theorem zl_k2 (E F : String) (hne : F ≠ E) : ∀ i, i < [E, F].length → ∀ N, (fun (E' : String) (M1 : mm_T) => if E' = E then (some ((1 : Int32), M1)) else (if E' = F then (some ((2 : Int32), M1)) else none)) ([E, F].getD i "") N = some (nI (i + 1), N) := by
  intro i hi N
  have hi' : i < 2 := hi
  rcases (show i = 0 ∨ i = 1 by omega) with z | z
  · subst z
    show (if E = E then _ else _) = _
    rw [if_pos rfl]; rfl
  · subst z
    show (if F = E then _ else if F = F then _ else _) = _
    rw [if_neg hne, if_pos rfl]; rfl
theorem zl_k3 (E F G : String) (hne : F ≠ E) (h2 : G ≠ E) (h3 : G ≠ F) : ∀ i, i < [E, F, G].length → ∀ N, (fun (E' : String) (M1 : mm_T) => if E' = E then (some ((1 : Int32), M1)) else (if E' = F then (some ((2 : Int32), M1)) else (if E' = G then (some ((3 : Int32), M1)) else none))) ([E, F, G].getD i "") N = some (nI (i + 1), N) := by
  intro i hi N
  have hi' : i < 3 := hi
  rcases (show i = 0 ∨ i = 1 ∨ i = 2 by omega) with z | z | z
  · subst z
    show (if E = E then _ else _) = _
    rw [if_pos rfl]; rfl
  · subst z
    show (if F = E then _ else if F = F then _ else _) = _
    rw [if_neg hne, if_pos rfl]; rfl
  · subst z
    show (if G = E then _ else if G = F then _ else if G = G then _ else _) = _
    rw [if_neg h2, if_neg h3, if_pos rfl]; rfl
section ZLAW
variable {M : mm_T} {s : zy_T} {n : Nat}
theorem zl_truncateText (h : zy_C M s) (hk : mm_k M 63 = (21, n)) (hn : 0 < n) (hn2 : n < 2 ^ 31) (a0 : Int32) : zl_Z (ff_Z_truncateText 1 a0 63 M) M (zv_truncateText s a0) := by
  refine zl_cs (f := zv_truncateText s a0) (Es := ["java/lang/IllegalArgumentException"]) (zy_truncateText h a0) h.1.1 hk hn hn2 ?_ (by decide) (zl_k1 _)
  · show (zv_truncateText s a0).1.1 ≤ 1
    unfold zv_truncateText
    repeat' split
    all_goals first | exact Nat.zero_le _ | exact Nat.le_of_ble_eq_true rfl
theorem zl_instructionsIn (h : zy_C M s) (hk : mm_k M 63 = (21, n)) (hn : 0 < n) (hn2 : n < 2 ^ 31) (a0 : Int32) : zl_Z (ff_Z_instructionsIn 1 a0 63 M) M ((zv_instructionsIn (zy_P s) a0, s)) := by
  refine zl_cs (f := (zv_instructionsIn (zy_P s) a0, s)) (Es := ["java/lang/IndexOutOfBoundsException"]) (zy_ofO h (zc_instructionsIn h.2 a0)) h.1.1 hk hn hn2 ?_ (by decide) (zl_k1 _)
  · show (zv_instructionsIn (zy_P s) a0).1 ≤ 1
    unfold zv_instructionsIn
    repeat' split
    all_goals first | exact Nat.zero_le _ | exact Nat.le_of_ble_eq_true rfl
theorem zl_blockOf (h : zy_C M s) (hk : mm_k M 63 = (21, n)) (hn : 0 < n) (hn2 : n < 2 ^ 31) (a0 : Int32) : zl_Z (ff_Z_blockOf 1 a0 63 M) M ((zv_blockOf (zy_P s) a0, s)) := by
  refine zl_cs (f := (zv_blockOf (zy_P s) a0, s)) (Es := ["java/lang/IndexOutOfBoundsException"]) (zy_ofO h (zc_blockOf h.2 a0)) h.1.1 hk hn hn2 ?_ (by decide) (zl_k1 _)
  · show (zv_blockOf (zy_P s) a0).1 ≤ 1
    unfold zv_blockOf
    repeat' split
    all_goals first | exact Nat.zero_le _ | exact Nat.le_of_ble_eq_true rfl
theorem zl_kindOf (h : zy_C M s) (hk : mm_k M 63 = (21, n)) (hn : 0 < n) (hn2 : n < 2 ^ 31) (a0 : Int32) : zl_Z (ff_Z_kindOf 1 a0 63 M) M ((zv_kindOf (zy_P s) a0, s)) := by
  refine zl_cs (f := (zv_kindOf (zy_P s) a0, s)) (Es := ["java/lang/IndexOutOfBoundsException"]) (zy_ofO h (zc_kindOf h.2 a0)) h.1.1 hk hn hn2 ?_ (by decide) (zl_k1 _)
  · show (zv_kindOf (zy_P s) a0).1 ≤ 1
    unfold zv_kindOf
    repeat' split
    all_goals first | exact Nat.zero_le _ | exact Nat.le_of_ble_eq_true rfl
theorem zl_successor (h : zy_C M s) (hk : mm_k M 63 = (21, n)) (hn : 0 < n) (hn2 : n < 2 ^ 31) (a0 a1 : Int32) : zl_Z (ff_Z_successor 1 a0 a1 63 M) M ((zv_successor (zy_P s) a0 a1, s)) := by
  refine zl_cs (f := (zv_successor (zy_P s) a0 a1, s)) (Es := ["java/lang/IndexOutOfBoundsException", "java/util/NoSuchElementException"]) (zy_ofO h (zc_successor h.2 a0 a1)) h.1.1 hk hn hn2 ?_ (by decide) (zl_k2 _ _ (by decide))
  · show (zv_successor (zy_P s) a0 a1).1 ≤ 2
    unfold zv_successor
    repeat' split
    all_goals first | exact Nat.zero_le _ | exact Nat.le_of_ble_eq_true rfl
theorem zl_predecessors (h : zy_C M s) (hk : mm_k M 63 = (21, n)) (hn : 0 < n) (hn2 : n < 2 ^ 31) (a0 : Int32) : zl_Z (ff_Z_predecessors 1 a0 63 M) M ((zv_predecessors (zy_P s) a0, s)) := by
  refine zl_cs (f := (zv_predecessors (zy_P s) a0, s)) (Es := ["java/lang/IndexOutOfBoundsException"]) (zy_ofO h (zc_predecessors h.2 a0)) h.1.1 hk hn hn2 ?_ (by decide) (zl_k1 _)
  · show (zv_predecessors (zy_P s) a0).1 ≤ 1
    unfold zv_predecessors
    repeat' split
    all_goals first | exact Nat.zero_le _ | exact Nat.le_of_ble_eq_true rfl
theorem zl_isReachable (h : zy_C M s) (hk : mm_k M 63 = (21, n)) (hn : 0 < n) (hn2 : n < 2 ^ 31) (a0 : Int32) : zl_Z (ff_Z_isReachable 1 a0 63 M) M ((zv_isReachable (zy_P s) a0, s)) ∧ (((zv_isReachable (zy_P s) a0, s)).1.1 = 0 → ((zv_isReachable (zy_P s) a0, s)).1.2 = 0 ∨ ((zv_isReachable (zy_P s) a0, s)).1.2 = 1) := by
  refine zl_csB (f := (zv_isReachable (zy_P s) a0, s)) (Es := ["java/lang/IndexOutOfBoundsException"]) (zy_ofO h (zc_isReachable h.2 a0)) h.1.1 hk hn hn2 ?_ (by decide) ?_ (zl_k1 _)
  · show (zv_isReachable (zy_P s) a0).1 ≤ 1
    unfold zv_isReachable
    repeat' split
    all_goals first | exact Nat.zero_le _ | exact Nat.le_of_ble_eq_true rfl
  · show ((zv_isReachable (zy_P s) a0)).1 = 0 → ((zv_isReachable (zy_P s) a0)).2 = 0 ∨ ((zv_isReachable (zy_P s) a0)).2 = 1
    unfold zv_isReachable
    repeat' split
    all_goals first | exact fun _ => zl_01 _ | exact fun z => absurd z (by decide) | exact fun _ => Or.inl rfl | exact fun _ => Or.inr rfl
theorem zl_distanceTo (h : zy_C M s) (hk : mm_k M 63 = (21, n)) (hn : 0 < n) (hn2 : n < 2 ^ 31) (a0 : Int32) : zl_Z (ff_Z_distanceTo 1 a0 63 M) M ((zv_distanceTo (zy_P s) a0, s)) := by
  refine zl_cs (f := (zv_distanceTo (zy_P s) a0, s)) (Es := ["java/lang/IndexOutOfBoundsException"]) (zy_ofO h (zc_distanceTo h.2 a0)) h.1.1 hk hn hn2 ?_ (by decide) (zl_k1 _)
  · show (zv_distanceTo (zy_P s) a0).1 ≤ 1
    unfold zv_distanceTo
    repeat' split
    all_goals first | exact Nat.zero_le _ | exact Nat.le_of_ble_eq_true rfl
theorem zl_reaches (h : zy_C M s) (hk : mm_k M 63 = (21, n)) (hn : 0 < n) (hn2 : n < 2 ^ 31) (a0 a1 : Int32) : zl_Z (ff_Z_reaches 1 a0 a1 63 M) M ((zv_reaches (zy_P s) a0 a1, s)) ∧ (((zv_reaches (zy_P s) a0 a1, s)).1.1 = 0 → ((zv_reaches (zy_P s) a0 a1, s)).1.2 = 0 ∨ ((zv_reaches (zy_P s) a0 a1, s)).1.2 = 1) := by
  refine zl_csB (f := (zv_reaches (zy_P s) a0 a1, s)) (Es := ["java/lang/IndexOutOfBoundsException"]) (zy_ofO h (zc_reaches h.2 a0 a1)) h.1.1 hk hn hn2 ?_ (by decide) ?_ (zl_k1 _)
  · show (zv_reaches (zy_P s) a0 a1).1 ≤ 1
    unfold zv_reaches
    repeat' split
    all_goals first | exact Nat.zero_le _ | exact Nat.le_of_ble_eq_true rfl
  · show ((zv_reaches (zy_P s) a0 a1)).1 = 0 → ((zv_reaches (zy_P s) a0 a1)).2 = 0 ∨ ((zv_reaches (zy_P s) a0 a1)).2 = 1
    unfold zv_reaches
    repeat' split
    all_goals first | exact fun _ => zl_01 _ | exact fun z => absurd z (by decide) | exact fun _ => Or.inl rfl | exact fun _ => Or.inr rfl
theorem zl_reachingDefinitions (h : zy_C M s) (hk : mm_k M 63 = (21, n)) (hn : 0 < n) (hn2 : n < 2 ^ 31) (a0 a1 : Int32) : zl_Z (ff_Z_reachingDefinitions 1 a0 a1 63 M) M ((zv_reachingDefinitions (zy_P s) a0 a1, s)) := by
  refine zl_cs (f := (zv_reachingDefinitions (zy_P s) a0 a1, s)) (Es := ["java/lang/IndexOutOfBoundsException", "java/lang/IllegalArgumentException"]) (zy_ofO h (zc_reachingDefinitions h.2 a0 a1)) h.1.1 hk hn hn2 ?_ (by decide) (zl_k2 _ _ (by decide))
  · show (zv_reachingDefinitions (zy_P s) a0 a1).1 ≤ 2
    unfold zv_reachingDefinitions
    repeat' split
    all_goals first | exact Nat.zero_le _ | exact Nat.le_of_ble_eq_true rfl
theorem zl_isInitialReaching (h : zy_C M s) (hk : mm_k M 63 = (21, n)) (hn : 0 < n) (hn2 : n < 2 ^ 31) (a0 a1 : Int32) : zl_Z (ff_Z_isInitialReaching 1 a0 a1 63 M) M ((zv_isInitialReaching (zy_P s) a0 a1, s)) ∧ (((zv_isInitialReaching (zy_P s) a0 a1, s)).1.1 = 0 → ((zv_isInitialReaching (zy_P s) a0 a1, s)).1.2 = 0 ∨ ((zv_isInitialReaching (zy_P s) a0 a1, s)).1.2 = 1) := by
  refine zl_csB (f := (zv_isInitialReaching (zy_P s) a0 a1, s)) (Es := ["java/lang/IndexOutOfBoundsException", "java/lang/IllegalArgumentException"]) (zy_ofO h (zc_isInitialReaching h.2 a0 a1)) h.1.1 hk hn hn2 ?_ (by decide) ?_ (zl_k2 _ _ (by decide))
  · show (zv_isInitialReaching (zy_P s) a0 a1).1 ≤ 2
    unfold zv_isInitialReaching
    repeat' split
    all_goals first | exact Nat.zero_le _ | exact Nat.le_of_ble_eq_true rfl
  · show ((zv_isInitialReaching (zy_P s) a0 a1)).1 = 0 → ((zv_isInitialReaching (zy_P s) a0 a1)).2 = 0 ∨ ((zv_isInitialReaching (zy_P s) a0 a1)).2 = 1
    unfold zv_isInitialReaching
    repeat' split
    all_goals first | exact fun _ => zl_01 _ | exact fun z => absurd z (by decide) | exact fun _ => Or.inl rfl | exact fun _ => Or.inr rfl
theorem zl_usesOf (h : zy_C M s) (hk : mm_k M 63 = (21, n)) (hn : 0 < n) (hn2 : n < 2 ^ 31) (a0 : Int32) : zl_Z (ff_Z_usesOf 1 a0 63 M) M ((zv_usesOf (zy_P s) a0, s)) := by
  refine zl_cs (f := (zv_usesOf (zy_P s) a0, s)) (Es := ["java/lang/IndexOutOfBoundsException"]) (zy_ofO h (zc_usesOf h.2 a0)) h.1.1 hk hn hn2 ?_ (by decide) (zl_k1 _)
  · show (zv_usesOf (zy_P s) a0).1 ≤ 1
    unfold zv_usesOf
    repeat' split
    all_goals first | exact Nat.zero_le _ | exact Nat.le_of_ble_eq_true rfl
theorem zl_onlyDefinition (h : zy_C M s) (hk : mm_k M 63 = (21, n)) (hn : 0 < n) (hn2 : n < 2 ^ 31) (a0 a1 : Int32) : zl_Z (ff_Z_onlyDefinition 1 a0 a1 63 M) M ((zv_onlyDefinition (zy_P s) a0 a1, s)) := by
  refine zl_cs (f := (zv_onlyDefinition (zy_P s) a0 a1, s)) (Es := ["java/lang/IndexOutOfBoundsException", "java/util/NoSuchElementException"]) (zy_ofO h (zc_onlyDefinition h.2 a0 a1)) h.1.1 hk hn hn2 ?_ (by decide) (zl_k2 _ _ (by decide))
  · show (zv_onlyDefinition (zy_P s) a0 a1).1 ≤ 2
    unfold zv_onlyDefinition
    repeat' split
    all_goals first | exact Nat.zero_le _ | exact Nat.le_of_ble_eq_true rfl
theorem zl_isLiveIn (h : zy_C M s) (hk : mm_k M 63 = (21, n)) (hn : 0 < n) (hn2 : n < 2 ^ 31) (a0 a1 : Int32) : zl_Z (ff_Z_isLiveIn 1 a0 a1 63 M) M ((zv_isLiveIn (zy_P s) a0 a1, s)) ∧ (((zv_isLiveIn (zy_P s) a0 a1, s)).1.1 = 0 → ((zv_isLiveIn (zy_P s) a0 a1, s)).1.2 = 0 ∨ ((zv_isLiveIn (zy_P s) a0 a1, s)).1.2 = 1) := by
  refine zl_csB (f := (zv_isLiveIn (zy_P s) a0 a1, s)) (Es := ["java/lang/IndexOutOfBoundsException", "java/lang/IllegalArgumentException"]) (zy_ofO h (zc_isLiveIn h.2 a0 a1)) h.1.1 hk hn hn2 ?_ (by decide) ?_ (zl_k2 _ _ (by decide))
  · show (zv_isLiveIn (zy_P s) a0 a1).1 ≤ 2
    unfold zv_isLiveIn
    repeat' split
    all_goals first | exact Nat.zero_le _ | exact Nat.le_of_ble_eq_true rfl
  · show ((zv_isLiveIn (zy_P s) a0 a1)).1 = 0 → ((zv_isLiveIn (zy_P s) a0 a1)).2 = 0 ∨ ((zv_isLiveIn (zy_P s) a0 a1)).2 = 1
    unfold zv_isLiveIn
    repeat' split
    all_goals first | exact fun _ => zl_01 _ | exact fun z => absurd z (by decide) | exact fun _ => Or.inl rfl | exact fun _ => Or.inr rfl
theorem zl_isLiveOut (h : zy_C M s) (hk : mm_k M 63 = (21, n)) (hn : 0 < n) (hn2 : n < 2 ^ 31) (a0 a1 : Int32) : zl_Z (ff_Z_isLiveOut 1 a0 a1 63 M) M ((zv_isLiveOut (zy_P s) a0 a1, s)) ∧ (((zv_isLiveOut (zy_P s) a0 a1, s)).1.1 = 0 → ((zv_isLiveOut (zy_P s) a0 a1, s)).1.2 = 0 ∨ ((zv_isLiveOut (zy_P s) a0 a1, s)).1.2 = 1) := by
  refine zl_csB (f := (zv_isLiveOut (zy_P s) a0 a1, s)) (Es := ["java/lang/IndexOutOfBoundsException", "java/lang/IllegalArgumentException"]) (zy_ofO h (zc_isLiveOut h.2 a0 a1)) h.1.1 hk hn hn2 ?_ (by decide) ?_ (zl_k2 _ _ (by decide))
  · show (zv_isLiveOut (zy_P s) a0 a1).1 ≤ 2
    unfold zv_isLiveOut
    repeat' split
    all_goals first | exact Nat.zero_le _ | exact Nat.le_of_ble_eq_true rfl
  · show ((zv_isLiveOut (zy_P s) a0 a1)).1 = 0 → ((zv_isLiveOut (zy_P s) a0 a1)).2 = 0 ∨ ((zv_isLiveOut (zy_P s) a0 a1)).2 = 1
    unfold zv_isLiveOut
    repeat' split
    all_goals first | exact fun _ => zl_01 _ | exact fun z => absurd z (by decide) | exact fun _ => Or.inl rfl | exact fun _ => Or.inr rfl
theorem zl_liveBefore (h : zy_C M s) (hk : mm_k M 63 = (21, n)) (hn : 0 < n) (hn2 : n < 2 ^ 31) (a0 : Int32) : zl_Z (ff_Z_liveBefore 1 a0 63 M) M ((zv_liveBefore (zy_P s) a0, s)) := by
  refine zl_cs (f := (zv_liveBefore (zy_P s) a0, s)) (Es := ["java/lang/IndexOutOfBoundsException"]) (zy_ofO h (zc_liveBefore h.2 a0)) h.1.1 hk hn hn2 ?_ (by decide) (zl_k1 _)
  · show (zv_liveBefore (zy_P s) a0).1 ≤ 1
    unfold zv_liveBefore
    repeat' split
    all_goals first | exact Nat.zero_le _ | exact Nat.le_of_ble_eq_true rfl
theorem zl_isDead (h : zy_C M s) (hk : mm_k M 63 = (21, n)) (hn : 0 < n) (hn2 : n < 2 ^ 31) (a0 : Int32) : zl_Z (ff_Z_isDead 1 a0 63 M) M ((zv_isDead (zy_P s) a0, s)) ∧ (((zv_isDead (zy_P s) a0, s)).1.1 = 0 → ((zv_isDead (zy_P s) a0, s)).1.2 = 0 ∨ ((zv_isDead (zy_P s) a0, s)).1.2 = 1) := by
  refine zl_csB (f := (zv_isDead (zy_P s) a0, s)) (Es := ["java/lang/IndexOutOfBoundsException"]) (zy_ofO h (zc_isDead h.2 a0)) h.1.1 hk hn hn2 ?_ (by decide) ?_ (zl_k1 _)
  · show (zv_isDead (zy_P s) a0).1 ≤ 1
    unfold zv_isDead
    repeat' split
    all_goals first | exact Nat.zero_le _ | exact Nat.le_of_ble_eq_true rfl
  · show ((zv_isDead (zy_P s) a0)).1 = 0 → ((zv_isDead (zy_P s) a0)).2 = 0 ∨ ((zv_isDead (zy_P s) a0)).2 = 1
    unfold zv_isDead
    repeat' split
    all_goals first | exact fun _ => zl_01 _ | exact fun z => absurd z (by decide) | exact fun _ => Or.inl rfl | exact fun _ => Or.inr rfl
theorem zl_interfere (h : zy_C M s) (hk : mm_k M 63 = (21, n)) (hn : 0 < n) (hn2 : n < 2 ^ 31) (a0 a1 : Int32) : zl_Z (ff_Z_interfere 1 a0 a1 63 M) M ((zv_interfere (zy_P s) a0 a1, s)) ∧ (((zv_interfere (zy_P s) a0 a1, s)).1.1 = 0 → ((zv_interfere (zy_P s) a0 a1, s)).1.2 = 0 ∨ ((zv_interfere (zy_P s) a0 a1, s)).1.2 = 1) := by
  refine zl_csB (f := (zv_interfere (zy_P s) a0 a1, s)) (Es := ["java/lang/IllegalArgumentException"]) (zy_ofO h (zc_interfere h.2 a0 a1)) h.1.1 hk hn hn2 ?_ (by decide) ?_ (zl_k1 _)
  · show (zv_interfere (zy_P s) a0 a1).1 ≤ 1
    unfold zv_interfere
    repeat' split
    all_goals first | exact Nat.zero_le _ | exact Nat.le_of_ble_eq_true rfl
  · show ((zv_interfere (zy_P s) a0 a1)).1 = 0 → ((zv_interfere (zy_P s) a0 a1)).2 = 0 ∨ ((zv_interfere (zy_P s) a0 a1)).2 = 1
    unfold zv_interfere
    repeat' split
    all_goals first | exact fun _ => zl_01 _ | exact fun z => absurd z (by decide) | exact fun _ => Or.inl rfl | exact fun _ => Or.inr rfl
theorem zl_isRedundant (h : zy_C M s) (hk : mm_k M 63 = (21, n)) (hn : 0 < n) (hn2 : n < 2 ^ 31) (a0 : Int32) : zl_Z (ff_Z_isRedundant 1 a0 63 M) M ((zv_isRedundant (zy_P s) a0, s)) ∧ (((zv_isRedundant (zy_P s) a0, s)).1.1 = 0 → ((zv_isRedundant (zy_P s) a0, s)).1.2 = 0 ∨ ((zv_isRedundant (zy_P s) a0, s)).1.2 = 1) := by
  refine zl_csB (f := (zv_isRedundant (zy_P s) a0, s)) (Es := ["java/lang/IndexOutOfBoundsException"]) (zy_ofO h (zc_isRedundant h.2 a0)) h.1.1 hk hn hn2 ?_ (by decide) ?_ (zl_k1 _)
  · show (zv_isRedundant (zy_P s) a0).1 ≤ 1
    unfold zv_isRedundant
    repeat' split
    all_goals first | exact Nat.zero_le _ | exact Nat.le_of_ble_eq_true rfl
  · show ((zv_isRedundant (zy_P s) a0)).1 = 0 → ((zv_isRedundant (zy_P s) a0)).2 = 0 ∨ ((zv_isRedundant (zy_P s) a0)).2 = 1
    unfold zv_isRedundant
    repeat' split
    all_goals first | exact fun _ => zl_01 _ | exact fun z => absurd z (by decide) | exact fun _ => Or.inl rfl | exact fun _ => Or.inr rfl
theorem zl_availableAt (h : zy_C M s) (hk : mm_k M 63 = (21, n)) (hn : 0 < n) (hn2 : n < 2 ^ 31) (a0 : Int32) : zl_Z (ff_Z_availableAt 1 a0 63 M) M ((zv_availableAt (zy_P s) a0, s)) := by
  refine zl_cs (f := (zv_availableAt (zy_P s) a0, s)) (Es := ["java/lang/IndexOutOfBoundsException"]) (zy_ofO h (zc_availableAt h.2 a0)) h.1.1 hk hn hn2 ?_ (by decide) (zl_k1 _)
  · show (zv_availableAt (zy_P s) a0).1 ≤ 1
    unfold zv_availableAt
    repeat' split
    all_goals first | exact Nat.zero_le _ | exact Nat.le_of_ble_eq_true rfl
theorem zl_dominates (h : zy_C M s) (hk : mm_k M 63 = (21, n)) (hn : 0 < n) (hn2 : n < 2 ^ 31) (a0 a1 : Int32) : zl_Z (ff_Z_dominates 1 a0 a1 63 M) M ((zv_dominates (zy_P s) a0 a1, s)) ∧ (((zv_dominates (zy_P s) a0 a1, s)).1.1 = 0 → ((zv_dominates (zy_P s) a0 a1, s)).1.2 = 0 ∨ ((zv_dominates (zy_P s) a0 a1, s)).1.2 = 1) := by
  refine zl_csB (f := (zv_dominates (zy_P s) a0 a1, s)) (Es := ["java/lang/IndexOutOfBoundsException"]) (zy_ofO h (zc_dominates h.2 a0 a1)) h.1.1 hk hn hn2 ?_ (by decide) ?_ (zl_k1 _)
  · show (zv_dominates (zy_P s) a0 a1).1 ≤ 1
    unfold zv_dominates
    repeat' split
    all_goals first | exact Nat.zero_le _ | exact Nat.le_of_ble_eq_true rfl
  · show ((zv_dominates (zy_P s) a0 a1)).1 = 0 → ((zv_dominates (zy_P s) a0 a1)).2 = 0 ∨ ((zv_dominates (zy_P s) a0 a1)).2 = 1
    unfold zv_dominates
    repeat' split
    all_goals first | exact fun _ => zl_01 _ | exact fun z => absurd z (by decide) | exact fun _ => Or.inl rfl | exact fun _ => Or.inr rfl
theorem zl_immediateDominator (h : zy_C M s) (hk : mm_k M 63 = (21, n)) (hn : 0 < n) (hn2 : n < 2 ^ 31) (a0 : Int32) : zl_Z (ff_Z_immediateDominator 1 a0 63 M) M ((zv_immediateDominator (zy_P s) a0, s)) := by
  refine zl_cs (f := (zv_immediateDominator (zy_P s) a0, s)) (Es := ["java/lang/IndexOutOfBoundsException"]) (zy_ofO h (zc_immediateDominator h.2 a0)) h.1.1 hk hn hn2 ?_ (by decide) (zl_k1 _)
  · show (zv_immediateDominator (zy_P s) a0).1 ≤ 1
    unfold zv_immediateDominator
    repeat' split
    all_goals first | exact Nat.zero_le _ | exact Nat.le_of_ble_eq_true rfl
theorem zl_commonDominator (h : zy_C M s) (hk : mm_k M 63 = (21, n)) (hn : 0 < n) (hn2 : n < 2 ^ 31) (a0 a1 : Int32) : zl_Z (ff_Z_commonDominator 1 a0 a1 63 M) M ((zv_commonDominator (zy_P s) a0 a1, s)) := by
  refine zl_cs (f := (zv_commonDominator (zy_P s) a0 a1, s)) (Es := ["java/lang/IndexOutOfBoundsException"]) (zy_ofO h (zc_commonDominator h.2 a0 a1)) h.1.1 hk hn hn2 ?_ (by decide) (zl_k1 _)
  · show (zv_commonDominator (zy_P s) a0 a1).1 ≤ 1
    unfold zv_commonDominator
    repeat' split
    all_goals first | exact Nat.zero_le _ | exact Nat.le_of_ble_eq_true rfl
theorem zl_loopSize (h : zy_C M s) (hk : mm_k M 63 = (21, n)) (hn : 0 < n) (hn2 : n < 2 ^ 31) (a0 : Int32) : zl_Z (ff_Z_loopSize 1 a0 63 M) M ((zv_loopSize (zy_P s) a0, s)) := by
  refine zl_cs (f := (zv_loopSize (zy_P s) a0, s)) (Es := ["java/lang/IndexOutOfBoundsException"]) (zy_ofO h (zc_loopSize h.2 a0)) h.1.1 hk hn hn2 ?_ (by decide) (zl_k1 _)
  · show (zv_loopSize (zy_P s) a0).1 ≤ 1
    unfold zv_loopSize
    repeat' split
    all_goals first | exact Nat.zero_le _ | exact Nat.le_of_ble_eq_true rfl
theorem zl_loopDepth (h : zy_C M s) (hk : mm_k M 63 = (21, n)) (hn : 0 < n) (hn2 : n < 2 ^ 31) (a0 : Int32) : zl_Z (ff_Z_loopDepth 1 a0 63 M) M ((zv_loopDepth (zy_P s) a0, s)) := by
  refine zl_cs (f := (zv_loopDepth (zy_P s) a0, s)) (Es := ["java/lang/IndexOutOfBoundsException"]) (zy_ofO h (zc_loopDepth h.2 a0)) h.1.1 hk hn hn2 ?_ (by decide) (zl_k1 _)
  · show (zv_loopDepth (zy_P s) a0).1 ≤ 1
    unfold zv_loopDepth
    repeat' split
    all_goals first | exact Nat.zero_le _ | exact Nat.le_of_ble_eq_true rfl
theorem zl_constantAt (h : zy_C M s) (hk : mm_k M 63 = (21, n)) (hn : 0 < n) (hn2 : n < 2 ^ 31) (a0 a1 : Int32) : zl_Z (ff_Z_constantAt 1 a0 a1 63 M) M ((zv_constantAt (zy_P s) a0 a1, s)) := by
  refine zl_cs (f := (zv_constantAt (zy_P s) a0 a1, s)) (Es := ["java/lang/IndexOutOfBoundsException", "java/lang/IllegalArgumentException"]) (zy_ofO h (zc_constantAt h.2 a0 a1)) h.1.1 hk hn hn2 ?_ (by decide) (zl_k2 _ _ (by decide))
  · show (zv_constantAt (zy_P s) a0 a1).1 ≤ 2
    unfold zv_constantAt
    repeat' split
    all_goals first | exact Nat.zero_le _ | exact Nat.le_of_ble_eq_true rfl
theorem zl_constantOf (h : zy_C M s) (hk : mm_k M 63 = (21, n)) (hn : 0 < n) (hn2 : n < 2 ^ 31) (a0 : Int32) : zl_Z (ff_Z_constantOf 1 a0 63 M) M ((zv_constantOf (zy_P s) a0, s)) := by
  refine zl_cs (f := (zv_constantOf (zy_P s) a0, s)) (Es := ["java/lang/IndexOutOfBoundsException"]) (zy_ofO h (zc_constantOf h.2 a0)) h.1.1 hk hn hn2 ?_ (by decide) (zl_k1 _)
  · show (zv_constantOf (zy_P s) a0).1 ≤ 1
    unfold zv_constantOf
    repeat' split
    all_goals first | exact Nat.zero_le _ | exact Nat.le_of_ble_eq_true rfl
theorem zl_runSteps (h : zy_C M s) (hk : mm_k M 63 = (21, n)) (hn : 0 < n) (hn2 : n < 2 ^ 31) (a0 : Int32) : zl_Z (ff_Z_runSteps 1 a0 63 M) M ((zv_runSteps (zy_P s) a0, s)) := by
  refine zl_cs (f := (zv_runSteps (zy_P s) a0, s)) (Es := ["java/lang/IllegalArgumentException"]) (zy_ofO h (zc_runSteps h.2 h.1.2.1.1 a0)) h.1.1 hk hn hn2 ?_ (by decide) (zl_k1 _)
  · show (zv_runSteps (zy_P s) a0).1 ≤ 1
    unfold zv_runSteps
    repeat' split
    all_goals first | exact Nat.zero_le _ | exact Nat.le_of_ble_eq_true rfl
theorem zl_runEnds (h : zy_C M s) (hk : mm_k M 63 = (21, n)) (hn : 0 < n) (hn2 : n < 2 ^ 31) (a0 : Int32) : zl_Z (ff_Z_runEnds 1 a0 63 M) M ((zv_runEnds (zy_P s) a0, s)) ∧ (((zv_runEnds (zy_P s) a0, s)).1.1 = 0 → ((zv_runEnds (zy_P s) a0, s)).1.2 = 0 ∨ ((zv_runEnds (zy_P s) a0, s)).1.2 = 1) := by
  refine zl_csB (f := (zv_runEnds (zy_P s) a0, s)) (Es := ["java/lang/IllegalArgumentException"]) (zy_ofO h (zc_runEnds h.2 h.1.2.1.1 a0)) h.1.1 hk hn hn2 ?_ (by decide) ?_ (zl_k1 _)
  · show (zv_runEnds (zy_P s) a0).1 ≤ 1
    unfold zv_runEnds
    repeat' split
    all_goals first | exact Nat.zero_le _ | exact Nat.le_of_ble_eq_true rfl
  · show ((zv_runEnds (zy_P s) a0)).1 = 0 → ((zv_runEnds (zy_P s) a0)).2 = 0 ∨ ((zv_runEnds (zy_P s) a0)).2 = 1
    unfold zv_runEnds
    repeat' split
    all_goals first | exact fun _ => zl_01 _ | exact fun z => absurd z (by decide) | exact fun _ => Or.inl rfl | exact fun _ => Or.inr rfl
theorem zl_valueAfter (h : zy_C M s) (hk : mm_k M 63 = (21, n)) (hn : 0 < n) (hn2 : n < 2 ^ 31) (a0 a1 : Int32) : zl_Z (ff_Z_valueAfter 1 a0 a1 63 M) M ((zv_valueAfter (zy_P s) a0 a1, s)) := by
  refine zl_cs (f := (zv_valueAfter (zy_P s) a0 a1, s)) (Es := ["java/lang/IllegalArgumentException"]) (zy_ofO h (zc_valueAfter h.2 h.1.2.1.1 a0 a1)) h.1.1 hk hn hn2 ?_ (by decide) (zl_k1 _)
  · show (zv_valueAfter (zy_P s) a0 a1).1 ≤ 1
    unfold zv_valueAfter
    repeat' split
    all_goals first | exact Nat.zero_le _ | exact Nat.le_of_ble_eq_true rfl
theorem zl_lastShown (h : zy_C M s) (hk : mm_k M 63 = (21, n)) (hn : 0 < n) (hn2 : n < 2 ^ 31) (a0 : Int32) : zl_Z (ff_Z_lastShown 1 a0 63 M) M ((zv_lastShown (zy_P s) a0, s)) := by
  refine zl_cs (f := (zv_lastShown (zy_P s) a0, s)) (Es := ["java/lang/IllegalArgumentException"]) (zy_ofO h (zc_lastShown h.2 h.1.2.1.1 a0)) h.1.1 hk hn hn2 ?_ (by decide) (zl_k1 _)
  · show (zv_lastShown (zy_P s) a0).1 ≤ 1
    unfold zv_lastShown
    repeat' split
    all_goals first | exact Nat.zero_le _ | exact Nat.le_of_ble_eq_true rfl
theorem zl_visits (h : zy_C M s) (hk : mm_k M 63 = (21, n)) (hn : 0 < n) (hn2 : n < 2 ^ 31) (a0 a1 : Int32) : zl_Z (ff_Z_visits 1 a0 a1 63 M) M ((zv_visits (zy_P s) a0 a1, s)) := by
  refine zl_cs (f := (zv_visits (zy_P s) a0 a1, s)) (Es := ["java/lang/IndexOutOfBoundsException", "java/lang/IllegalArgumentException"]) (zy_ofO h (zc_visits h.2 h.1.2.1.1 a0 a1)) h.1.1 hk hn hn2 ?_ (by decide) (zl_k2 _ _ (by decide))
  · show (zv_visits (zy_P s) a0 a1).1 ≤ 2
    unfold zv_visits
    repeat' split
    all_goals first | exact Nat.zero_le _ | exact Nat.le_of_ble_eq_true rfl
theorem zl_insertSet (h : zy_C M s) (hk : mm_k M 63 = (21, n)) (hn : 0 < n) (hn2 : n < 2 ^ 31) (hB : mm_n M + 8 < st_B) (a0 a1 a2 a3 : Int32) : zl_Z (ff_Z_insertSet 1 a0 a1 a2 a3 63 M) M (zv_insertSet s a0 a1 a2 a3) := by
  refine zl_cs (f := zv_insertSet s a0 a1 a2 a3) (Es := ["java/lang/IndexOutOfBoundsException", "java/lang/IllegalArgumentException", "java/lang/IllegalStateException"]) (zy_insertSet h hB a0 a1 a2 a3) h.1.1 hk hn hn2 ?_ (by decide) (zl_k3 _ _ _ (by decide) (by decide) (by decide))
  · show (zv_insertSet s a0 a1 a2 a3).1.1 ≤ 3
    unfold zv_insertSet
    repeat' split
    all_goals first | exact Nat.zero_le _ | exact Nat.le_of_ble_eq_true rfl
theorem zl_insertCalc (h : zy_C M s) (hk : mm_k M 63 = (21, n)) (hn : 0 < n) (hn2 : n < 2 ^ 31) (hB : mm_n M + 8 < st_B) (a0 a1 a2 a3 a4 a5 : Int32) : zl_Z (ff_Z_insertCalc 1 a0 a1 a2 a3 a4 a5 63 M) M (zv_insertCalc s a0 a1 a2 a3 a4 a5) := by
  refine zl_cs (f := zv_insertCalc s a0 a1 a2 a3 a4 a5) (Es := ["java/lang/IndexOutOfBoundsException", "java/lang/IllegalArgumentException", "java/lang/IllegalStateException"]) (zy_insertCalc h hB a0 a1 a2 a3 a4 a5) h.1.1 hk hn hn2 ?_ (by decide) (zl_k3 _ _ _ (by decide) (by decide) (by decide))
  · show (zv_insertCalc s a0 a1 a2 a3 a4 a5).1.1 ≤ 3
    unfold zv_insertCalc
    repeat' split
    all_goals first | exact Nat.zero_le _ | exact Nat.le_of_ble_eq_true rfl
theorem zl_removeInstruction (h : zy_C M s) (hk : mm_k M 63 = (21, n)) (hn : 0 < n) (hn2 : n < 2 ^ 31) (hB : mm_n M + 8 < st_B) (a0 : Int32) : zl_Z (ff_Z_removeInstruction 1 a0 63 M) M (zv_removeInstruction s a0) := by
  refine zl_cs (f := zv_removeInstruction s a0) (Es := ["java/lang/IndexOutOfBoundsException"]) (zy_removeInstruction h hB a0) h.1.1 hk hn hn2 ?_ (by decide) (zl_k1 _)
  · show (zv_removeInstruction s a0).1.1 ≤ 1
    unfold zv_removeInstruction
    repeat' split
    all_goals first | exact Nat.zero_le _ | exact Nat.le_of_ble_eq_true rfl
theorem zl_setGoto (h : zy_C M s) (hk : mm_k M 63 = (21, n)) (hn : 0 < n) (hn2 : n < 2 ^ 31) (hB : mm_n M + 8 < st_B) (a0 a1 : Int32) : zl_Z (ff_Z_setGoto 1 a0 a1 63 M) M (zv_setGoto s a0 a1) := by
  refine zl_cs (f := zv_setGoto s a0 a1) (Es := ["java/lang/IndexOutOfBoundsException"]) (zy_setGoto h hB a0 a1) h.1.1 hk hn hn2 ?_ (by decide) (zl_k1 _)
  · show (zv_setGoto s a0 a1).1.1 ≤ 1
    unfold zv_setGoto
    repeat' split
    all_goals first | exact Nat.zero_le _ | exact Nat.le_of_ble_eq_true rfl
theorem zl_setBranch (h : zy_C M s) (hk : mm_k M 63 = (21, n)) (hn : 0 < n) (hn2 : n < 2 ^ 31) (hB : mm_n M + 8 < st_B) (a0 a1 a2 a3 : Int32) : zl_Z (ff_Z_setBranch 1 a0 a1 a2 a3 63 M) M (zv_setBranch s a0 a1 a2 a3) := by
  refine zl_cs (f := zv_setBranch s a0 a1 a2 a3) (Es := ["java/lang/IndexOutOfBoundsException", "java/lang/IllegalArgumentException"]) (zy_setBranch h hB a0 a1 a2 a3) h.1.1 hk hn hn2 ?_ (by decide) (zl_k2 _ _ (by decide))
  · show (zv_setBranch s a0 a1 a2 a3).1.1 ≤ 2
    unfold zv_setBranch
    repeat' split
    all_goals first | exact Nat.zero_le _ | exact Nat.le_of_ble_eq_true rfl
theorem zl_writeBlock (h : zy_C M s) (hk : mm_k M 63 = (21, n)) (hn : 0 < n) (hn2 : n < 2 ^ 31) (a0 : Int32) : zl_Z (ff_Z_writeBlock 1 a0 63 M) M (zv_writeBlock s a0) := by
  refine zl_cs (f := zv_writeBlock s a0) (Es := ["java/lang/IndexOutOfBoundsException"]) (zy_writeBlock h a0) h.1.1 hk hn hn2 ?_ (by decide) (zl_k1 _)
  · show (zv_writeBlock s a0).1.1 ≤ 1
    unfold zv_writeBlock
    repeat' split
    all_goals first | exact Nat.zero_le _ | exact Nat.le_of_ble_eq_true rfl
end ZLAW
