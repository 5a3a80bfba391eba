/-! ===== the small memory: cells numbered from 1 in the order in which they were made; their kinds, their ints, longs, references (0 is null) ===== -/
/-  cells; cells ever made (exceptions too); slots ever made; kinds (class or kind of array, length); ints; longs; references -/
/-- numbers of fields; which are references -/
def kn_T (c : Nat) : u_T := match vwCl[c]? with
  | some q => q.2.1
  | none => fun _ => ("", "", "", false)
def kn_C (c : Nat) : String := match vwCl[c]? with
  | some q => q.1
  | none => ""
/-- 0 int, 1 boolean, 2 reference -/
def kn_f (c j : Nat) : Nat := if (kn_T c j).2.2.1 = "I" then 0 else if (kn_T c j).2.2.1 = "Z" then 1 else 2
/-- classes by number; slots of fields; classes of the arrays 20 int, 21 long, 22 boolean, 23 Program; where the new cells begin; texts and their bytes -/
abbrev gl_T : Type := (Nat → ClassId) × (Nat → Nat → Nat) × (Nat → ClassId) × Nat × (Nat → Nat) × (Nat → Nat)
def gl_D (G : gl_T) : va_G := (G.1, G.2.1)
def gl_A (G : gl_T) : Nat → ClassId := G.2.2.1
def gl_b (G : gl_T) : Nat := G.2.2.2.1
def gl_K (G : gl_T) : Nat → Nat := G.2.2.2.2.1
def gl_V (G : gl_T) : Nat → Nat := G.2.2.2.2.2
/-- the cells that may change -/
def gl_f (G : gl_T) : Nat → Prop := fun q => gl_b G ≤ q
def cv_q (G : gl_T) (ad : Nat → Nat) (r : Nat) : Option Nat := if r = 0 then none else if r < st_B then some (ad r) else some (gl_K G (r - st_B))
def cv_r (G : gl_T) (ad : Nat → Nat) (r : Nat) : Value := va_rf (cv_q G ad r)
def cv_v (G : gl_T) (ad : Nat → Nat) (v : Value) : Value := match v with
  | .ref r => cv_r G ad r
  | v => v
theorem cv_cat (G : gl_T) (ad : Nat → Nat) (v : Value) : (cv_v G ad v).category = v.category := by
  cases v <;> try rfl
  case ref r =>
    show (va_rf (cv_q G ad r)).category = 1
    cases cv_q G ad r <;> rfl
/-- a field's value -/
def fv_v (G : gl_T) (ad : Nat → Nat) (M : mm_T) (a j : Nat) : Value := if kn_f (mm_K M a).1 j = 2 then cv_r G ad (mm_R M a j) else .int (mm_I M a j)
def en_e (G : gl_T) (ad : Nat → Nat) (M : mm_T) (a : Nat) : va_E :=
  if (mm_K M a).1 = 20 then .inl (gl_A G 20, (mm_K M a).2, .inl (mm_I M a))
  else if (mm_K M a).1 = 21 then .inl (gl_A G 21, (mm_K M a).2, .inr (.inl (mm_J M a)))
  else if (mm_K M a).1 = 22 then .inl (gl_A G 22, (mm_K M a).2, .inl (mm_I M a))
  else if (mm_K M a).1 = 23 then .inl (gl_A G 23, (mm_K M a).2, .inr (.inr (.inr (.inr (fun j => cv_q G ad (mm_R M a j))))))
  else .inr ((mm_K M a).1, (List.range (kn_N (mm_K M a).1)).map (fv_v G ad M a))
def ws_w (G : gl_T) (ad : Nat → Nat) (M : mm_T) : va_W := (List.range (mm_n M)).map (fun i => (ad (i + 1), en_e G ad M (i + 1)))
/-- the heap holds the memory -/
def wr_h (G : gl_T) (ad : Nat → Nat) (M : mm_T) (H : Heap) : Prop := va_P (gl_D G) vwCl (ws_w G ad M) H ∧ va_D (gl_f G) (ws_w G ad M)
def ex_a (ad ad' : Nat → Nat) (M : mm_T) : Prop := ∀ i, i ≤ mm_n M → ad' i = ad i
theorem ws_len (G : gl_T) (ad : Nat → Nat) (M : mm_T) : (ws_w G ad M).length = mm_n M := by simp [ws_w]
theorem ws_get {G : gl_T} {ad : Nat → Nat} {M : mm_T} {a : Nat} (h1 : 1 ≤ a) (h2 : a ≤ mm_n M) : (ws_w G ad M)[a - 1]? = some (ad a, en_e G ad M a) := by
  obtain ⟨b, rfl⟩ : ∃ b, a = b + 1 := ⟨a - 1, by omega⟩
  have hb : b < mm_n M := by omega
  simp [ws_w, List.getElem?_map, List.getElem?_range hb]
theorem mm_k_in {M : mm_T} {a c l : Nat} (h : mm_k M a = (c, l)) (hc : c ≠ 99) : 1 ≤ a ∧ a ≤ mm_n M ∧ mm_K M a = (c, l) := by
  unfold mm_k at h
  by_cases q : 1 ≤ a ∧ a ≤ mm_n M
  · rw [if_pos q] at h; exact ⟨q.1, q.2, h⟩
  · rw [if_neg q] at h
    exact absurd (congrArg Prod.fst h).symm hc
theorem mm_k_in1 {M : mm_T} {a c : Nat} (h : (mm_k M a).1 = c) (hc : c ≠ 99) : 1 ≤ a ∧ a ≤ mm_n M ∧ (mm_K M a).1 = c := by
  obtain ⟨h1, h2, h3⟩ := mm_k_in (M := M) (a := a) (c := c) (l := (mm_k M a).2) (by rw [← h]) hc
  exact ⟨h1, h2, by rw [h3]⟩
/-- one cell was written -/
theorem ws_set {G : gl_T} {ad : Nat → Nat} {M M' : mm_T} {a : Nat} (h1 : 1 ≤ a) (h2 : a ≤ mm_n M) (hn : mm_n M' = mm_n M) (ho : ∀ b, b ≠ a → en_e G ad M' b = en_e G ad M b) : ws_w G ad M' = (ws_w G ad M).set (a - 1) (ad a, en_e G ad M' a) := by
  apply List.ext_getElem?
  intro i
  rw [List.getElem?_set]
  by_cases hi : i < mm_n M
  · by_cases e : a - 1 = i
    · subst e
      rw [if_pos rfl, if_pos (by rw [ws_len]; exact hi), ws_get (M := M') h1 (by omega)]
    · rw [if_neg e]
      have q : i = (i + 1) - 1 := rfl
      rw [q, ws_get (by omega) (by omega), ws_get (by omega) (by omega), ho _ (by omega)]
  · rw [List.getElem?_eq_none (by rw [ws_len]; omega)]
    by_cases e : a - 1 = i
    · omega
    · rw [if_neg e, List.getElem?_eq_none (by rw [ws_len]; omega)]
/-- a cell was made -/
theorem ws_push {G : gl_T} {ad : Nat → Nat} {M M' : mm_T} {q : Nat} (hn : mm_n M' = mm_n M + 1) (hw : mm_wf M) (hK : ∀ b, b ≤ mm_n M → mm_K M' b = mm_K M b ∧ mm_I M' b = mm_I M b ∧ mm_J M' b = mm_J M b ∧ mm_R M' b = mm_R M b) :
    ws_w G (fun r => if r = mm_n M + 1 then q else ad r) M' = ws_w G ad M ++ [(q, en_e G (fun r => if r = mm_n M + 1 then q else ad r) M' (mm_n M + 1))] := by
  unfold ws_w
  rw [hn, List.range_succ, List.map_append]
  congr 1
  · apply List.map_congr_left
    intro i hi
    have hi := List.mem_range.mp hi
    obtain ⟨e1, e2, e3, e4⟩ := hK (i + 1) (by omega)
    have hq : ∀ r, r ≤ mm_n M → cv_q G (fun r => if r = mm_n M + 1 then q else ad r) r = cv_q G ad r := by
      intro r hr
      unfold cv_q
      have e0 : (if r = mm_n M + 1 then q else ad r) = ad r := if_neg (by omega)
      simp only [e0]
    have hf : ∀ j, fv_v G (fun r => if r = mm_n M + 1 then q else ad r) M' (i + 1) j = fv_v G ad M (i + 1) j := by
      intro j
      unfold fv_v cv_r
      rw [e1, e2, e4, hq _ (hw.2 _ _)]
    have hf' : fv_v G (fun r => if r = mm_n M + 1 then q else ad r) M' (i + 1) = fv_v G ad M (i + 1) := funext hf
    have he : en_e G (fun r => if r = mm_n M + 1 then q else ad r) M' (i + 1) = en_e G ad M (i + 1) := by
      unfold en_e
      rw [e1, e2, e3, e4, hf']
      have : (fun j => cv_q G (fun r => if r = mm_n M + 1 then q else ad r) (mm_R M (i + 1) j)) = fun j => cv_q G ad (mm_R M (i + 1) j) := funext fun j => hq _ (hw.2 _ _)
      rw [this]
    show (if i + 1 = mm_n M + 1 then q else ad (i + 1), _) = _
    rw [if_neg (by omega), he]
  · show [(if mm_n M + 1 = mm_n M + 1 then q else ad (mm_n M + 1), _)] = _
    rw [if_pos rfl]
/-! references in range -/
def ok_r (M : mm_T) (r : Nat) : Prop := r ≤ mm_n M ∨ st_B ≤ r
theorem ok_r.mono {M M' : mm_T} (h : mm_n M ≤ mm_n M') {r : Nat} (k : ok_r M r) : ok_r M' r := by
  unfold ok_r at *
  omega
def ok_v (M : mm_T) (v : Value) : Prop := match v with
  | .ref r => ok_r M r
  | .null => False
  | _ => True
def ok_S (M : mm_T) (S : List Value) : Prop := ∀ v ∈ S, ok_v M v
def ok_L (M : mm_T) (L : List (Option Value)) : Prop := ∀ v, some v ∈ L → ok_v M v
theorem ok_v.mono {M M' : mm_T} (h : mm_n M ≤ mm_n M') {v : Value} (k : ok_v M v) : ok_v M' v := by
  cases v <;> first | exact k | exact ok_r.mono h k
theorem ok_S.mono {M M' : mm_T} (h : mm_n M ≤ mm_n M') {S : List Value} (k : ok_S M S) : ok_S M' S := fun v hv => (k v hv).mono h
theorem ok_L.mono {M M' : mm_T} (h : mm_n M ≤ mm_n M') {L : List (Option Value)} (k : ok_L M L) : ok_L M' L := fun v hv => (k v hv).mono h
theorem ok_S.tl {M : mm_T} {v : Value} {S : List Value} (k : ok_S M (v :: S)) : ok_S M S := fun w hw => k w (List.mem_cons_of_mem _ hw)
theorem ok_S.hd {M : mm_T} {v : Value} {S : List Value} (k : ok_S M (v :: S)) : ok_v M v := k v List.mem_cons_self
theorem ok_S.cons {M : mm_T} {v : Value} {S : List Value} (h : ok_v M v) (k : ok_S M S) : ok_S M (v :: S) := fun w hw => (List.mem_cons.mp hw).elim (fun e => e ▸ h) (k w)
theorem cv_q.same {G : gl_T} {ad ad' : Nat → Nat} {M : mm_T} (h : ex_a ad ad' M) {r : Nat} (k : ok_r M r) : cv_q G ad' r = cv_q G ad r := by
  unfold cv_q
  rcases k with k | k
  · rw [h r k]
  · have h1 : ¬ r < st_B := by omega
    have h2 : ¬ r = 0 := by unfold st_B at k; omega
    rw [if_neg h2, if_neg h1, if_neg h2, if_neg h1]
theorem cv_v.same {G : gl_T} {ad ad' : Nat → Nat} {M : mm_T} (hw : mm_wf M) (h : ex_a ad ad' M) {v : Value} (k : ok_v M v) : cv_v G ad' v = cv_v G ad v := by
  cases v <;> try rfl
  case ref r =>
    show va_rf (cv_q G ad' r) = va_rf (cv_q G ad r)
    rw [cv_q.same h k]
theorem cv_S.same {G : gl_T} {ad ad' : Nat → Nat} {M : mm_T} (hw : mm_wf M) (h : ex_a ad ad' M) {S : List Value} (k : ok_S M S) : S.map (cv_v G ad') = S.map (cv_v G ad) := List.map_congr_left fun v hv => cv_v.same hw h (k v hv)
/-- the known variables, as the kit has them -/
def lv_l (G : gl_T) (ad : Nat → Nat) : Nat → List (Option Value) → List (Nat × Value)
  | _, [] => []
  | i, none :: t => lv_l G ad (i + 1) t
  | i, some v :: t => (i, cv_v G ad v) :: lv_l G ad (i + 1) t
theorem lv_l_iff {G : gl_T} {ad : Nat → Nat} (q : Nat × Value) : ∀ (L : List (Option Value)) (i : Nat), q ∈ lv_l G ad i L ↔ ∃ (j : Nat) (v : Value), L[j]? = some (some v) ∧ q = (i + j, cv_v G ad v) := by
  intro L
  induction L with
  | nil => intro i; simp [lv_l]
  | cons a t ih =>
    intro i
    cases a with
    | none =>
      show q ∈ lv_l G ad (i + 1) t ↔ _
      rw [ih]
      constructor
      · rintro ⟨j, v, h, e⟩; exact ⟨j + 1, v, h, by rw [e]; congr 1; omega⟩
      · rintro ⟨j, v, h, e⟩
        cases j with
        | zero => simp at h
        | succ j => exact ⟨j, v, by simpa using h, by rw [e]; congr 1; omega⟩
    | some w =>
      show q ∈ (i, cv_v G ad w) :: lv_l G ad (i + 1) t ↔ _
      rw [List.mem_cons, ih]
      constructor
      · rintro (e | ⟨j, v, h, e⟩)
        · exact ⟨0, w, by simp, by rw [e]; rfl⟩
        · exact ⟨j + 1, v, h, by rw [e]; congr 1; omega⟩
      · rintro ⟨j, v, h, e⟩
        cases j with
        | zero => simp at h; subst h; exact Or.inl (by rw [e]; rfl)
        | succ j => exact Or.inr ⟨j, v, by simpa using h, by rw [e]; congr 1; omega⟩
theorem lv_l_at {G : gl_T} {ad : Nat → Nat} {ls : Array Slot} {nL : Nat} {L : List (Option Value)} (h : lv_has ls nL (lv_l G ad 0 L)) {i : Nat} {v : Value} (hi : L[i]? = some (some v)) : ls[i]? = some (.val (cv_v G ad v)) :=
  h.2.2 (i, cv_v G ad v) ((lv_l_iff _ _ _).mpr ⟨i, v, hi, by rw [Nat.zero_add]⟩)
/-- a list of variables that knows no more -/
def lv_le (L' L : List (Option Value)) : Bool := match L', L with
  | [], _ => true
  | none :: t, [] => lv_le t []
  | none :: t, _ :: s => lv_le t s
  | some v :: t, w :: s => decide (w = some v) && lv_le t s
  | some _ :: _, [] => false
theorem lv_has.less {ls : Array Slot} {nL : Nat} {l l' : List (Nat × Value)} (h : lv_has ls nL l) (k : ∀ q ∈ l', q ∈ l) : lv_has ls nL l' := ⟨h.1, h.2.1, fun q hq => h.2.2 q (k q hq)⟩
/-- does a value take two variables -/
def ct_2 : Value → Bool
  | .long _ => true
  | .double _ => true
  | _ => false
theorem ct_2_cat {G : gl_T} {ad : Nat → Nat} {v : Value} (h : ct_2 v = false) : ¬ (cv_v G ad v).category = 2 := by
  rw [cv_cat]
  cases v <;> first | exact absurd h (by decide) | exact (by show ¬ (1 = 2); decide) | (exfalso; exact Bool.noConfusion h)
def st_c (L : List (Option Value)) (i : Nat) : List (Option Value) := match i with
  | 0 => L
  | k + 1 => match L[k]? with
    | some (some w) => if ct_2 w then L.set k none else L
    | _ => L
def st_1 (L : List (Option Value)) (i : Nat) (v : Value) : List (Option Value) := (st_c L i).set i (some v)
def st_2 (L : List (Option Value)) (i : Nat) (v : Value) : List (Option Value) := ((st_c L i).set i (some v)).set (i + 1) none
theorem st_c_get {L : List (Option Value)} {i j : Nat} {v : Value} (h : (st_c L i)[j]? = some (some v)) : L[j]? = some (some v) ∧ ¬ (j + 1 = i ∧ ct_2 v = true) := by
  cases i with
  | zero => exact ⟨h, by omega⟩
  | succ k =>
    unfold st_c at h
    cases hk : L[k]? with
    | none =>
      simp only [hk] at h
      refine ⟨h, fun q => ?_⟩
      have : j = k := by omega
      subst this
      rw [hk] at h; cases h
    | some o =>
      cases o with
      | none =>
        simp only [hk] at h
        refine ⟨h, fun q => ?_⟩
        have : j = k := by omega
        subst this
        rw [hk] at h; cases h
      | some w =>
        simp only [hk] at h
        by_cases c : ct_2 w = true
        · rw [if_pos c, List.getElem?_set] at h
          by_cases e : k = j
          · rw [if_pos e] at h
            split at h <;> cases h
          · rw [if_neg e] at h
            exact ⟨h, fun q => e (by omega)⟩
        · rw [if_neg c] at h
          refine ⟨h, fun q => ?_⟩
          have : j = k := by omega
          subst this
          rw [hk] at h
          cases h
          exact c q.2
theorem st_1_lv {G : gl_T} {ad : Nat → Nat} {L : List (Option Value)} {i : Nat} {v : Value} : ∀ q ∈ lv_l G ad 0 (st_1 L i v), q ∈ (i, cv_v G ad v) :: (lv_l G ad 0 L).filter (fun q => !(q.1 == i) && !(q.1 + 1 == i && q.2.category == 2)) := by
  intro q hq
  obtain ⟨j, w, h, e⟩ := (lv_l_iff _ _ _).mp hq
  unfold st_1 at h
  rw [List.getElem?_set] at h
  by_cases c : i = j
  · rw [if_pos c] at h
    split at h
    · cases h; rw [e, c, Nat.zero_add]; exact List.mem_cons_self
    · cases h
  · rw [if_neg c] at h
    obtain ⟨h1, h2⟩ := st_c_get h
    refine List.mem_cons_of_mem _ (List.mem_filter.mpr ⟨(lv_l_iff _ _ _).mpr ⟨j, w, h1, e⟩, ?_⟩)
    rw [e, Nat.zero_add]
    have c1 : (j == i) = false := by simp; omega
    simp only [c1, Bool.not_false, Bool.true_and]
    by_cases c2 : j + 1 = i
    · have c3 : ct_2 w = false := by
        cases hw : ct_2 w
        · rfl
        · exact absurd ⟨c2, hw⟩ h2
      have := ct_2_cat (G := G) (ad := ad) c3
      simp [this]
    · simp [c2]
theorem st_2_lv {G : gl_T} {ad : Nat → Nat} {L : List (Option Value)} {i : Nat} {v : Value} : ∀ q ∈ lv_l G ad 0 (st_2 L i v), q ∈ (i, cv_v G ad v) :: (lv_l G ad 0 L).filter (fun q => !(q.1 == i) && (!(q.1 == i + 1) && !(q.1 + 1 == i && q.2.category == 2))) := by
  intro q hq
  obtain ⟨j, w, h, e⟩ := (lv_l_iff _ _ _).mp hq
  unfold st_2 at h
  rw [List.getElem?_set] at h
  by_cases c0 : i + 1 = j
  · rw [if_pos c0] at h
    split at h <;> cases h
  rw [if_neg c0, List.getElem?_set] at h
  by_cases c : i = j
  · rw [if_pos c] at h
    split at h
    · cases h; rw [e, c, Nat.zero_add]; exact List.mem_cons_self
    · cases h
  · rw [if_neg c] at h
    obtain ⟨h1, h2⟩ := st_c_get h
    refine List.mem_cons_of_mem _ (List.mem_filter.mpr ⟨(lv_l_iff _ _ _).mpr ⟨j, w, h1, e⟩, ?_⟩)
    rw [e, Nat.zero_add]
    have c1 : (j == i) = false := by simp; omega
    have c4 : (j == i + 1) = false := by simp; omega
    simp only [c1, c4, Bool.not_false, Bool.true_and]
    by_cases c2 : j + 1 = i
    · have c3 : ct_2 w = false := by
        cases hw : ct_2 w
        · rfl
        · exact absurd ⟨c2, hw⟩ h2
      have := ct_2_cat (G := G) (ad := ad) c3
      simp [this]
    · simp [c2]
theorem st_1_ok {M : mm_T} {L : List (Option Value)} {i : Nat} {v : Value} (h : ok_L M L) (hv : ok_v M v) : ok_L M (st_1 L i v) := by
  intro w hw
  obtain ⟨j, hj⟩ := List.getElem?_of_mem hw
  unfold st_1 at hj
  rw [List.getElem?_set] at hj
  by_cases c : i = j
  · rw [if_pos c] at hj
    split at hj
    · cases hj; exact hv
    · cases hj
  · rw [if_neg c] at hj
    exact h w (List.mem_of_getElem? (st_c_get hj).1)
theorem st_2_ok {M : mm_T} {L : List (Option Value)} {i : Nat} {v : Value} (h : ok_L M L) (hv : ok_v M v) : ok_L M (st_2 L i v) := by
  intro w hw
  obtain ⟨j, hj⟩ := List.getElem?_of_mem hw
  unfold st_2 at hj
  rw [List.getElem?_set] at hj
  by_cases c0 : i + 1 = j
  · rw [if_pos c0] at hj
    split at hj <;> cases hj
  rw [if_neg c0, List.getElem?_set] at hj
  by_cases c : i = j
  · rw [if_pos c] at hj
    split at hj
    · cases hj; exact hv
    · cases hj
  · rw [if_neg c] at hj
    exact h w (List.mem_of_getElem? (st_c_get hj).1)
theorem lv_le_get : ∀ {L' L : List (Option Value)}, lv_le L' L = true → ∀ {j : Nat} {v : Value}, L'[j]? = some (some v) → L[j]? = some (some v) := by
  intro L'
  induction L' with
  | nil => intro L _ j v h; simp at h
  | cons a t ih =>
    intro L hl j v h
    cases a with
    | none =>
      cases L with
      | nil =>
        cases j with
        | zero => simp at h
        | succ j => have := ih (L := []) hl (j := j) (v := v) (by simpa using h); simp at this
      | cons b s =>
        cases j with
        | zero => simp at h
        | succ j => simpa using ih (L := s) hl (j := j) (v := v) (by simpa using h)
    | some w =>
      cases L with
      | nil => cases hl
      | cons b s =>
        simp only [lv_le, Bool.and_eq_true, decide_eq_true_eq] at hl
        cases j with
        | zero => simp at h ⊢; rw [hl.1, h]
        | succ j => simpa using ih (L := s) hl.2 (j := j) (v := v) (by simpa using h)
