/-! ===== fields and arrays ===== -/
set_option maxRecDepth 20000 in
theorem cl_at : ∀ c, c < 12 → vwCl[c]? = some (kn_C c, kn_T c, kn_N c) := fun c hc => by
  match c, hc with
  | 0, _ => rfl
  | 1, _ => rfl
  | 2, _ => rfl
  | 3, _ => rfl
  | 4, _ => rfl
  | 5, _ => rfl
  | 6, _ => rfl
  | 7, _ => rfl
  | 8, _ => rfl
  | 9, _ => rfl
  | 10, _ => rfl
  | 11, _ => rfl
  | c + 12, h => exact absurd h (by omega)
def kn_t (c : Nat) : Nat → FieldType := match c with
  | 0 => tyX0
  | 1 => tyX2
  | 2 => tyX3
  | 3 => tyX4
  | 4 => tyX5
  | 5 => tyX6
  | 6 => tyX7
  | 7 => tyX8
  | 8 => tyX9
  | 9 => tyX10
  | 10 => tyX11
  | _ => tyX12
theorem cl_in : ∀ c, c < 12 → ∀ w ∈ u_ws (kn_C c) (kn_T c) (kn_N c), w ∈ tb_G := fun c hc => by
  match c, hc with
  | 0, _ => exact inTX0
  | 1, _ => exact inTX2
  | 2, _ => exact inTX3
  | 3, _ => exact inTX4
  | 4, _ => exact inTX5
  | 5, _ => exact inTX6
  | 6, _ => exact inTX7
  | 7, _ => exact inTX8
  | 8, _ => exact inTX9
  | 9, _ => exact inTX10
  | 10, _ => exact inTX11
  | 11, _ => exact inTX12
  | c + 12, h => exact absurd h (by omega)
theorem cl_ty : ∀ c, c < 12 → ∀ k, k < kn_N c → parseFieldDescriptor (kn_T c k).2.2.1 = some (kn_t c k) := fun c hc => by
  match c, hc with
  | 0, _ => exact tyX0_ok
  | 1, _ => exact tyX2_ok
  | 2, _ => exact tyX3_ok
  | 3, _ => exact tyX4_ok
  | 4, _ => exact tyX5_ok
  | 5, _ => exact tyX6_ok
  | 6, _ => exact tyX7_ok
  | 7, _ => exact tyX8_ok
  | 8, _ => exact tyX9_ok
  | 9, _ => exact tyX10_ok
  | 10, _ => exact tyX11_ok
  | 11, _ => exact tyX12_ok
  | c + 12, h => exact absurd h (by omega)
theorem cl_nm : ∀ c, c < 12 → ∀ a, a < kn_N c → ∀ b, b < kn_N c → a ≠ b → (kn_T c a).2.1 ≠ (kn_T c b).2.1 := fun c hc => by
  match c, hc with
  | 0, _ => exact nmX0
  | 1, _ => exact nmX2
  | 2, _ => exact nmX3
  | 3, _ => exact nmX4
  | 4, _ => exact nmX5
  | 5, _ => exact nmX6
  | 6, _ => exact nmX7
  | 7, _ => exact nmX8
  | 8, _ => exact nmX9
  | 9, _ => exact nmX10
  | 10, _ => exact nmX11
  | 11, _ => exact nmX12
  | c + 12, h => exact absurd h (by omega)
def ty_r : FieldType → Bool
  | .object _ => true
  | .array _ => true
  | _ => false
theorem cl_k0 : ∀ c, c < 12 → ∀ k, k < kn_N c → (kn_f c k = 0 → kn_t c k = .int) ∧ (kn_f c k = 1 → kn_t c k = .boolean) ∧ (kn_f c k = 2 → ty_r (kn_t c k) = true) ∧ kn_f c k ≤ 2 := by decide +kernel
theorem ty_r_fit {ty : FieldType} (h : ty_r ty = true) {v : Value} (hv : v = .null ∨ ∃ a, v = .ref a) : narrow ty v = v ∧ fits ty v = true := by
  rcases hv with rfl | ⟨a, rfl⟩ <;> cases ty <;> first | exact ⟨rfl, rfl⟩ | cases h
theorem en_obj {G : gl_T} {ad : Nat → Nat} {M : mm_T} {a c : Nat} (h : (mm_K M a).1 = c) (hc : c < 12) : en_e G ad M a = .inr (c, (List.range (kn_N c)).map (fv_v G ad M a)) := by
  unfold en_e
  rw [h, if_neg (by omega), if_neg (by omega), if_neg (by omega), if_neg (by omega)]
theorem fv_at {G : gl_T} {ad : Nat → Nat} {M : mm_T} {a c k : Nat} (hk : k < kn_N c) : ((List.range (kn_N c)).map (fv_v G ad M a))[k]? = some (fv_v G ad M a k) := by
  rw [List.getElem?_map, List.getElem?_range hk]
  rfl
/-- the field k of class number c, by entry ix of class own -/
def fd_F (own : String) (ix c k : Nat) : Prop := c < 12 ∧ k < kn_N c ∧ (kn_T c k).1 = kn_C c ∧ (Cond.fieldLink own ix (kn_C c) (kn_T c k).2.1 (kn_T c k).2.2.1 ∈ tb_G ∨ ∃ host, (own, ix, kn_C c, (kn_T c k).2.1, (kn_T c k).2.2.1, host) ∈ gn_F)
theorem va_in {j : Int32} {n : Nat} (h : 0 ≤ j.toInt ∧ j.toInt < n) : vp_in j n := vp_in_iff.mpr h
theorem cv_in {G : gl_T} {ad : Nat → Nat} {M : mm_T} {a : Nat} (hw : mm_wf M) (h1 : 1 ≤ a) (h2 : a ≤ mm_n M) : cv_v G ad (.ref a) = .ref (ad a) := by
  show va_rf (cv_q G ad a) = _
  have h3 := hw.1
  unfold cv_q
  rw [if_neg (by omega), if_pos (by omega)]
  rfl
theorem mm_wf.sI {M : mm_T} (h : mm_wf M) (a k : Nat) (v : Int32) : mm_wf (mm_sI M a k v) := h
theorem mm_wf.sJ {M : mm_T} (h : mm_wf M) (a k : Nat) (v : Int64) : mm_wf (mm_sJ M a k v) := h
theorem mm_wf.sR {M : mm_T} (h : mm_wf M) (a k : Nat) {v : Nat} (hv : v ≤ mm_n M) : mm_wf (mm_sR M a k v) := by
  refine ⟨h.1, fun x y => ?_⟩
  show (if x = a ∧ y = k then v else mm_R M x y) ≤ mm_n M
  split
  · exact hv
  · exact h.2 x y
/-- a nest link names another class's field -/
theorem fn_own {a b d e f : String} {i : Nat} (h : (a, i, b, d, e, f) ∈ gn_F) : a ≠ b := by
  have q : ∀ x ∈ gn_F, x.1 ≠ x.2.2.1 := by decide +kernel
  exact q _ h
section HP
variable {mi : mi_T} {fr lo : Nat} {G : gl_T} {M0 : mm_T} {r : rs_T} {M' : mm_T} {L L' : List (Option Value)} {S S' : List Value} {M M1 : mm_T}
/-- a step that may write cells -/
theorem wp_mem {pc pc' : Nat} (hn : mm_n M1 = mm_n M) (hc : mm_c M1 = mm_c M) (hu : mm_u M1 = mm_u M) (hok : mm_wf M → ok_L M L → ok_S M S → mm_wf M1 ∧ ok_L M1 L' ∧ ok_S M1 S')
    (h : ∀ (p : Program) (l : Launch) (e : Env) (R : Room) (s : State) (m : MethodId) (args : Array Value) (below : List Frame) (meth : Method) (c : Code) (H : Heap) (locs : List Loc) (cells slots : Nat) (Q : State → Prop) (ls : Array Slot) (ad : Nat → Nat),
      cx_C mi G p l s m args meth c → mm_wf M → ok_S M S → lv_has ls (mi_nL mi) (lv_l G ad 0 L) → wr_h G ad M H → va_S (gl_f G) s.heap H locs →
      (∀ (H1 : Heap) (locs1 : List Loc), wr_h G ad M1 H1 → va_S (gl_f G) s.heap H1 locs1 → W p l e R s m args below meth c H1 locs1 cells slots Q (F0 m pc' ls (S'.map (cv_v G ad)))) → W p l e R s m args below meth c H locs cells slots Q (F0 m pc ls (S.map (cv_v G ad))))
    (hl : L' = L) (k : wp_W mi fr lo G M0 r M' pc' L' S' M1) : wp_W mi fr lo G M0 r M' pc L S M := by
  subst hl
  intro hw hL hS
  obtain ⟨hw', hL', hS'⟩ := hok hw hL hS
  obtain ⟨k1, k2⟩ := k hw' hL' hS'
  refine ⟨⟨hn ▸ k1.1, hc ▸ k1.2.1, hu ▸ k1.2.2.1, k1.2.2.2⟩, ?_⟩
  intro p l e R s m args below meth c H locs ls ad ad0 hcx a1 a2 a3 a4 a5 a6 a7 a8 a9 a10 a11
  refine h p l e R s m args below meth c H locs _ _ _ ls ad hcx hw hS a10 a9 a11 (fun H1 locs1 b1 b2 => ?_)
  have q := k2 p l e R s m args below meth c H1 locs1 ls ad ad0 hcx a1 a2 a3 a4 (by rw [hn]; exact a5) (by rw [hc]; exact a6) (by rw [hu]; exact a7) a8 b1 a10 b2
  rw [hc, hu] at q
  exact q
theorem wr_set {ad : Nat → Nat} {a : Nat} {H1 : Heap} (hn : mm_n M1 = mm_n M) (h1 : 1 ≤ a) (h2 : a ≤ mm_n M) (ho : ∀ b, b ≠ a → en_e G ad M1 b = en_e G ad M b) {e : va_E} (he : en_e G ad M1 a = e) (hP : va_P (gl_D G) vwCl ((ws_w G ad M).set (a - 1) (ad a, e)) H1) (hD : va_D (gl_f G) ((ws_w G ad M).set (a - 1) (ad a, e))) : wr_h G ad M1 H1 := by
  unfold wr_h
  rw [ws_set h1 h2 hn ho, he]
  exact ⟨hP, hD⟩
theorem en_sI {ad : Nat → Nat} {a k : Nat} {v : Int32} {b : Nat} (hb : b ≠ a) : en_e G ad (mm_sI M a k v) b = en_e G ad M b := by
  have e : mm_I (mm_sI M a k v) b = mm_I M b := by
    funext y
    show (if b = a ∧ y = k then v else mm_I M b y) = _
    rw [if_neg (fun q => hb q.1)]
  have e2 : fv_v G ad (mm_sI M a k v) b = fv_v G ad M b := by
    funext y
    unfold fv_v
    rw [e]
    rfl
  unfold en_e
  rw [e, e2]
  rfl
theorem en_sJ {ad : Nat → Nat} {a k : Nat} {v : Int64} {b : Nat} (hb : b ≠ a) : en_e G ad (mm_sJ M a k v) b = en_e G ad M b := by
  have e : mm_J (mm_sJ M a k v) b = mm_J M b := by
    funext y
    show (if b = a ∧ y = k then v else mm_J M b y) = _
    rw [if_neg (fun q => hb q.1)]
  unfold en_e
  rw [e]
  rfl
theorem en_sR {ad : Nat → Nat} {a k : Nat} {v : Nat} {b : Nat} (hb : b ≠ a) : en_e G ad (mm_sR M a k v) b = en_e G ad M b := by
  have e : mm_R (mm_sR M a k v) b = mm_R M b := by
    funext y
    show (if b = a ∧ y = k then v else mm_R M b y) = _
    rw [if_neg (fun q => hb q.1)]
  have e2 : fv_v G ad (mm_sR M a k v) b = fv_v G ad M b := by
    funext y
    unfold fv_v
    rw [e]
    rfl
  unfold en_e
  rw [e, e2]
  rfl
/-- the fields' list behind a store -/
theorem fv_set {ad : Nat → Nat} {M1 : mm_T} {a c k : Nat} (hk : k < kn_N c) (ho : ∀ j, j ≠ k → fv_v G ad M1 a j = fv_v G ad M a j) : (List.range (kn_N c)).map (fv_v G ad M1 a) = ((List.range (kn_N c)).map (fv_v G ad M a)).set k (fv_v G ad M1 a k) := by
  apply List.ext_getElem?
  intro i
  rw [List.getElem?_set]
  by_cases hi : i < kn_N c
  · rw [fv_at hi]
    by_cases e : k = i
    · subst e
      rw [if_pos rfl, if_pos (by simpa using hk)]
    · rw [if_neg e, fv_at hi, ho i (fun q => e q.symm)]
  · rw [List.getElem?_eq_none (by simpa using hi)]
    by_cases e : k = i
    · omega
    · rw [if_neg e, List.getElem?_eq_none (by simpa using hi)]
theorem cx_K {p : Program} {l : Launch} {s : State} {m : MethodId} {args : Array Value} {meth : Method} {c : Code} (h : cx_C mi G p l s m args meth c) : va_K (gl_D G) vwCl (gl_t G) s := h.2.2.2.2.2.2.2.1.1.1
theorem wp_getf {pc i ix c k a : Nat} (h : (mi_tb mi)[i]? = some (pc, .getfield ix, 3)) (hf : fd_F (mi_own mi) ix c k) (ha : (mm_k M a).1 = c) {v : Value} (hv : ∀ ad, fv_v G ad M a k = cv_v G ad v) (hok : mm_wf M → ok_v M v) (kk : wp_W mi fr lo G M0 r M' (pc + 3) L (v :: S) M) : wp_W mi fr lo G M0 r M' pc L (.ref a :: S) M := by
  obtain ⟨hc, hk, hd, hlk⟩ := hf
  obtain ⟨h1, h2, h3⟩ := mm_k_in1 ha (by omega)
  refine wp_mem (M1 := M) (L' := L) (S' := v :: S) rfl rfl rfl (fun hw hL hS => ⟨hw, hL, ok_S.cons (hok hw) hS.tl⟩) (fun p l e R s m args below meth c9 H locs cells slots Q ls ad hcx hw hS hls hwr hva kk => ?_) rfl kk
  have q := kk H locs hwr hva
  obtain ⟨c1, c2, c3, c4, c5, c6, c7, c8, c9', c10, c11, c12⟩ := id hcx
  rw [List.map_cons, cv_in hw h1 h2]
  rw [List.map_cons, ← hv ad] at q
  have he := ws_get (G := G) (ad := ad) h1 h2
  rw [en_obj h3 hc] at he
  rcases hlk with hlk | ⟨host, hlk⟩
  · exact va_get c1 c2 c7 (cl_in c hc) c6 (cx_K hcx) hwr.1 (a - 1) he (cl_at c hc) k hk (c7 _ hlk) (fun x hx => hd ▸ hx) (fv_at hk) (mi_at c12 h) q
  · exact va_getN c1 c2 c7 (cl_in c hc) c6 (cx_K hcx) hwr.1 (a - 1) he (cl_at c hc) k hk (va_Nw.use rfl (c8.1.2.1 _ hlk)) (fun x hx => hd ▸ hx) (fv_at hk) (mi_at c12 h) q
theorem wp_putf {pc i ix c k a : Nat} (h : (mi_tb mi)[i]? = some (pc, .putfield ix, 3)) (hf : fd_F (mi_own mi) ix c k) (hfin : (kn_T c k).2.2.2 = false ∨ ((mi_y mi).name = "<init>" ∧ kn_C c = mi_own mi)) (ha : (mm_k M a).1 = c) {v : Value}
    (hn : mm_n M1 = mm_n M) (hcc : mm_c M1 = mm_c M) (hu : mm_u M1 = mm_u M) (hK : mm_K M1 = mm_K M) (hwf : mm_wf M → mm_wf M1) (ho : ∀ ad b, b ≠ a → en_e G ad M1 b = en_e G ad M b) (ho2 : ∀ ad j, j ≠ k → fv_v G ad M1 a j = fv_v G ad M a j) (hv : ∀ ad, fv_v G ad M1 a k = cv_v G ad v)
    (hfit : ∀ ad, narrow (kn_t c k) (cv_v G ad v) = cv_v G ad v ∧ fits (kn_t c k) (cv_v G ad v) = true) (kk : wp_W mi fr lo G M0 r M' (pc + 3) L S M1) : wp_W mi fr lo G M0 r M' pc L (v :: .ref a :: S) M := by
  obtain ⟨hc, hk, hd, hlk⟩ := hf
  obtain ⟨h1, h2, h3⟩ := mm_k_in1 ha (by omega)
  refine wp_mem (M1 := M1) (L' := L) (S' := S) hn hcc hu (fun hw hL hS => ⟨hwf hw, hL.mono (by omega), hS.tl.tl.mono (by omega)⟩) (fun p l e R s m args below meth c9 H locs cells slots Q ls ad hcx hw hS hls hwr hva kk => ?_) rfl kk
  obtain ⟨c1, c2, c3, c4, c5, c6, c7, c8, c9', c10, c11, c12⟩ := id hcx
  rw [List.map_cons, List.map_cons, cv_in hw h1 h2]
  have he := ws_get (G := G) (ad := ad) h1 h2
  rw [en_obj h3 hc] at he
  have h3' : (mm_K M1 a).1 = c := by rw [hK]; exact h3
  have hend : ∀ (H1 : Heap) (locs1 : List Loc), va_P (gl_D G) vwCl ((ws_w G ad M).set (a - 1) (ad a, .inr (c, ((List.range (kn_N c)).map (fv_v G ad M a)).set k (cv_v G ad v)))) H1 → va_D (gl_f G) ((ws_w G ad M).set (a - 1) (ad a, .inr (c, ((List.range (kn_N c)).map (fv_v G ad M a)).set k (cv_v G ad v)))) → va_S (gl_f G) s.heap H1 locs1 → W p l e R s m args below meth c9 H1 locs1 cells slots Q (F0 m (pc + 3) ls (S.map (cv_v G ad))) := by
    intro H1 locs1 b1 b2 b3
    refine kk H1 locs1 (wr_set hn h1 h2 (ho ad) ?_ b1 b2) b3
    rw [en_obj h3' hc, fv_set hk (ho2 ad), hv ad]
  have hlen : k < ((List.range (kn_N c)).map (fv_v G ad M a)).length := by simpa using hk
  rcases hlk with hlk | ⟨host, hlk⟩
  · rcases hfin with hfin | ⟨hfin, hown⟩
    · exact va_put c1 c2 c7 (cl_in c hc) (kn_t c) (cl_ty c hc) (cl_nm c hc) c6 (cx_K hcx) hwr.1 hwr.2 hva (a - 1) he (cl_at c hc) k hk (c7 _ hlk) (fun x hx => hd ▸ hx) hfin (cl_ty c hc k hk) (hfit ad).1 (hfit ad).2 hlen (mi_at c12 h) hend
    · by_cases hf2 : (kn_T c k).2.2.2 = true
      · exact va_putF c1 c2 c7 (cl_in c hc) (kn_t c) (cl_ty c hc) (cl_nm c hc) c6 (cx_K hcx) hwr.1 hwr.2 hva (a - 1) he (cl_at c hc) k hk (c7 _ hlk) (fun x hx => hd ▸ hx) hf2 (c11.trans hfin) (hd.trans hown) (cl_ty c hc k hk) (hfit ad).1 (hfit ad).2 hlen (mi_at c12 h) hend
      · exact va_put c1 c2 c7 (cl_in c hc) (kn_t c) (cl_ty c hc) (cl_nm c hc) c6 (cx_K hcx) hwr.1 hwr.2 hva (a - 1) he (cl_at c hc) k hk (c7 _ hlk) (fun x hx => hd ▸ hx) (by simpa using hf2) (cl_ty c hc k hk) (hfit ad).1 (hfit ad).2 hlen (mi_at c12 h) hend
  · rcases hfin with hfin | ⟨hfin, hown⟩
    · exact va_putN c1 c2 c7 (cl_in c hc) (kn_t c) (cl_ty c hc) (cl_nm c hc) c6 (cx_K hcx) hwr.1 hwr.2 hva (a - 1) he (cl_at c hc) k hk (va_Nw.use rfl (c8.1.2.1 _ hlk)) (fun x hx => hd ▸ hx) hfin (cl_ty c hc k hk) (hfit ad).1 (hfit ad).2 hlen (mi_at c12 h) hend
    · by_cases hf2 : (kn_T c k).2.2.2 = true
      · exact absurd hown.symm (fn_own hlk)
      · exact va_putN c1 c2 c7 (cl_in c hc) (kn_t c) (cl_ty c hc) (cl_nm c hc) c6 (cx_K hcx) hwr.1 hwr.2 hva (a - 1) he (cl_at c hc) k hk (va_Nw.use rfl (c8.1.2.1 _ hlk)) (fun x hx => hd ▸ hx) (by simpa using hf2) (cl_ty c hc k hk) (hfit ad).1 (hfit ad).2 hlen (mi_at c12 h) hend
end HP
