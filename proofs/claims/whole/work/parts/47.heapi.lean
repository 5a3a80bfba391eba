/-! ===== fields, arrays, new: over im_I ===== -/
section HI
variable {mi : mi_T} {fr lo : Nat} {G : gl_T} {M0 : mm_T} {ρ : Type} {f : ρ → rs_T × mm_T} {L L' : List (Option Value)} {S S' : List Value} {M : mm_T} {r : rs_T} {M' : mm_T}
theorem im_getI (i pc : Nat) {ix c k a : Nat} {kf : Int32 → Option ρ} (h : (mi_tb mi)[i]? = some (pc, .getfield ix, 3)) (hf : fd_F (mi_own mi) ix c k) (ht : kn_f c k ≠ 2) (kk : ∀ v : Int32, im_I mi fr lo G M0 f (kf v) (pc + 3) L (.int v :: S) M) : im_I mi fr lo G M0 f ((gf_I M a c k).bind kf) pc L (.ref a :: S) M := by
  intro z hz
  unfold gf_I at hz
  by_cases q : (mm_k M a).1 = c
  · rw [if_pos q] at hz
    have h3 := (mm_k_in1 q (by have := hf.1; omega)).2.2
    exact wp_getf h hf q (v := .int (mm_I M a k)) (fun ad => by unfold fv_v; rw [h3, if_neg ht]; rfl) (fun _ => trivial) (kk _ z hz)
  · rw [if_neg q] at hz; cases hz
theorem im_getR (i pc : Nat) {ix c k a : Nat} {kf : Nat → Option ρ} (h : (mi_tb mi)[i]? = some (pc, .getfield ix, 3)) (hf : fd_F (mi_own mi) ix c k) (ht : kn_f c k = 2) (kk : ∀ v : Nat, im_I mi fr lo G M0 f (kf v) (pc + 3) L (.ref v :: S) M) : im_I mi fr lo G M0 f ((gf_R M a c k).bind kf) pc L (.ref a :: S) M := by
  intro z hz
  unfold gf_R at hz
  by_cases q : (mm_k M a).1 = c
  · rw [if_pos q] at hz
    have h3 := (mm_k_in1 q (by have := hf.1; omega)).2.2
    exact wp_getf h hf q (v := .ref (mm_R M a k)) (fun ad => by unfold fv_v; rw [h3, if_pos ht]; rfl) (fun hw => Or.inl (hw.2 a k)) (kk _ z hz)
  · rw [if_neg q] at hz; cases hz
theorem fv_sI {ad : Nat → Nat} {a k : Nat} {v : Int32} {c : Nat} (h3 : (mm_K M a).1 = c) (ht : kn_f c k ≠ 2) : fv_v G ad (mm_sI M a k v) a k = cv_v G ad (.int v) := by
  unfold fv_v
  show (if kn_f (mm_K M a).1 k = 2 then _ else _) = _
  rw [h3, if_neg ht]
  show Value.int (if a = a ∧ k = k then v else mm_I M a k) = .int v
  rw [if_pos ⟨rfl, rfl⟩]
theorem fv_sI2 {ad : Nat → Nat} {a k j : Nat} {v : Int32} (hj : j ≠ k) : fv_v G ad (mm_sI M a k v) a j = fv_v G ad M a j := by
  unfold fv_v
  show (if kn_f (mm_K M a).1 j = 2 then cv_r G ad (mm_R M a j) else Value.int (if a = a ∧ j = k then v else mm_I M a j)) = _
  rw [if_neg (fun q => hj q.2 : ¬ (a = a ∧ j = k))]
theorem im_putI (i pc : Nat) {ix c k a : Nat} {x : Int32} {kf : mm_T → Option ρ} (h : (mi_tb mi)[i]? = some (pc, .putfield ix, 3)) (hf : fd_F (mi_own mi) ix c k) (hfin : (kn_T c k).2.2.2 = false ∨ ((mi_y mi).name = "<init>" ∧ kn_C c = mi_own mi)) (ht : kn_f c k = 0) (kk : ∀ M1 : mm_T, im_I mi fr lo G M0 f (kf M1) (pc + 3) L S M1) : im_I mi fr lo G M0 f ((pf_I M a c k x).bind kf) pc L (.int x :: .ref a :: S) M := by
  intro z hz
  unfold pf_I at hz
  by_cases q : (mm_k M a).1 = c
  · rw [if_pos q] at hz
    have h3 := (mm_k_in1 q (by have := hf.1; omega)).2.2
    have e := (cl_k0 c hf.1 k hf.2.1).1 ht
    exact wp_putf (M1 := mm_sI M a k x) h hf hfin q rfl rfl rfl rfl (fun hw => hw.sI a k x) (fun ad b hb => en_sI hb) (fun ad j hj => fv_sI2 hj) (fun ad => fv_sI h3 (by omega)) (fun ad => by rw [e]; exact ⟨rfl, rfl⟩) (kk _ z hz)
  · rw [if_neg q] at hz; cases hz
theorem im_putZ (i pc : Nat) {ix c k a : Nat} {x : Int32} {kf : mm_T → Option ρ} (h : (mi_tb mi)[i]? = some (pc, .putfield ix, 3)) (hf : fd_F (mi_own mi) ix c k) (hfin : (kn_T c k).2.2.2 = false ∨ ((mi_y mi).name = "<init>" ∧ kn_C c = mi_own mi)) (ht : kn_f c k = 1) (kk : ∀ M1 : mm_T, im_I mi fr lo G M0 f (kf M1) (pc + 3) L S M1) : im_I mi fr lo G M0 f ((pf_Z M a c k x).bind kf) pc L (.int x :: .ref a :: S) M := by
  intro z hz
  unfold pf_Z at hz
  by_cases q : (mm_k M a).1 = c ∧ (x = 0 ∨ x = 1)
  · rw [if_pos q] at hz
    have h3 := (mm_k_in1 q.1 (by have := hf.1; omega)).2.2
    have e := (cl_k0 c hf.1 k hf.2.1).2.1 ht
    exact wp_putf (M1 := mm_sI M a k x) h hf hfin q.1 rfl rfl rfl rfl (fun hw => hw.sI a k x) (fun ad b hb => en_sI hb) (fun ad j hj => fv_sI2 hj) (fun ad => fv_sI h3 (by omega)) (fun ad => by rw [e]; rcases q.2 with rfl | rfl <;> exact ⟨rfl, rfl⟩) (kk _ z hz)
  · rw [if_neg q] at hz; cases hz
theorem im_putR (i pc : Nat) {ix c k a x : Nat} {kf : mm_T → Option ρ} (h : (mi_tb mi)[i]? = some (pc, .putfield ix, 3)) (hf : fd_F (mi_own mi) ix c k) (hfin : (kn_T c k).2.2.2 = false ∨ ((mi_y mi).name = "<init>" ∧ kn_C c = mi_own mi)) (ht : kn_f c k = 2) (kk : ∀ M1 : mm_T, im_I mi fr lo G M0 f (kf M1) (pc + 3) L S M1) : im_I mi fr lo G M0 f ((pf_R M a c k x).bind kf) pc L (.ref x :: .ref a :: S) M := by
  intro z hz
  unfold pf_R at hz
  by_cases q : (mm_k M a).1 = c ∧ x ≤ mm_n M
  · rw [if_pos q] at hz
    have h3 := (mm_k_in1 q.1 (by have := hf.1; omega)).2.2
    have e := (cl_k0 c hf.1 k hf.2.1).2.2.1 ht
    refine wp_putf (M1 := mm_sR M a k x) h hf hfin q.1 rfl rfl rfl rfl (fun hw => hw.sR a k q.2) (fun ad b hb => en_sR hb) (fun ad j hj => ?_) (fun ad => ?_) (fun ad => ty_r_fit e (cv_dich G ad x)) (kk _ z hz)
    · unfold fv_v
      show (if kn_f (mm_K M a).1 j = 2 then cv_r G ad (if a = a ∧ j = k then x else mm_R M a j) else Value.int (mm_I M a j)) = _
      rw [if_neg (fun q => hj q.2 : ¬ (a = a ∧ j = k))]
    · unfold fv_v
      show (if kn_f (mm_K M a).1 k = 2 then cv_r G ad (if a = a ∧ k = k then x else mm_R M a k) else _) = _
      rw [h3, if_pos ht, if_pos ⟨rfl, rfl⟩]
      rfl
  · rw [if_neg q] at hz; cases hz
theorem en_20 {ad : Nat → Nat} {a : Nat} (h : (mm_K M a).1 = 20) : en_e G ad M a = .inl (gl_A G 20, (mm_K M a).2, .inl (mm_I M a)) := by unfold en_e; rw [if_pos h]
theorem en_21 {ad : Nat → Nat} {a : Nat} (h : (mm_K M a).1 = 21) : en_e G ad M a = .inl (gl_A G 21, (mm_K M a).2, .inr (.inl (mm_J M a))) := by unfold en_e; rw [if_neg (by omega), if_pos h]
theorem en_22 {ad : Nat → Nat} {a : Nat} (h : (mm_K M a).1 = 22) : en_e G ad M a = .inl (gl_A G 22, (mm_K M a).2, .inl (mm_I M a)) := by unfold en_e; rw [if_neg (by omega), if_neg (by omega), if_pos h]
theorem en_23 {ad : Nat → Nat} {a : Nat} (h : (mm_K M a).1 = 23) : en_e G ad M a = .inl (gl_A G 23, (mm_K M a).2, .inr (.inr (.inr (.inr (fun j => cv_q G ad (mm_R M a j)))))) := by unfold en_e; rw [if_neg (by omega), if_neg (by omega), if_neg (by omega), if_pos h]
theorem im_iaload (i pc : Nat) {a : Nat} {j : Int32} {kf : Int32 → Option ρ} (h : (mi_tb mi)[i]? = some (pc, .iaload, 1)) (kk : ∀ v : Int32, im_I mi fr lo G M0 f (kf v) (pc + 1) L (.int v :: S) M) : im_I mi fr lo G M0 f ((ar_I M a j).bind kf) pc L (.int j :: .ref a :: S) M := by
  intro z hz
  unfold ar_I at hz
  by_cases q : (mm_k M a).1 = 20 ∧ 0 ≤ j.toInt ∧ j.toInt < (mm_k M a).2
  · rw [if_pos q] at hz
    obtain ⟨q1, q2⟩ := q
    obtain ⟨h1, h2, h3⟩ := mm_k_in (l := (mm_k M a).2) (show mm_k M a = (20, (mm_k M a).2) by rw [← q1]) (by omega)
    have h4 : (mm_K M a).2 = (mm_k M a).2 := by rw [h3]
    refine wp_mem (M1 := M) (L' := L) (S' := .int (mm_I M a j.toInt.toNat) :: S) rfl rfl rfl (fun hw hL hS => ⟨hw, hL, ok_S.cons trivial hS.tl.tl⟩) (fun p l e R s m args below meth c9 H locs cells slots Q ls ad hcx hw hS hls hwr hva kk => ?_) rfl (kk _ z hz)
    have b := kk H locs hwr hva
    obtain ⟨c1, c2, c3, c4, c5, c6, c7, c8, c9', c10, c11, c12⟩ := id hcx
    rw [List.map_cons, List.map_cons, cv_in hw h1 h2]
    have he := ws_get (G := G) (ad := ad) h1 h2
    rw [en_20 (by rw [h3])] at he
    exact va_iald c1 c2 (cx_K hcx) hwr.1 (a - 1) 0 he rfl (va_in (by rw [h4]; exact q2)) (mi_at c12 h) b
  · rw [if_neg q] at hz; cases hz
theorem im_iastore (i pc : Nat) {a : Nat} {j : Int32} {x : Int32} {kf : mm_T → Option ρ} (h : (mi_tb mi)[i]? = some (pc, .iastore, 1)) (kk : ∀ M1 : mm_T, im_I mi fr lo G M0 f (kf M1) (pc + 1) L S M1) : im_I mi fr lo G M0 f ((aw_I M a j x).bind kf) pc L (.int x :: .int j :: .ref a :: S) M := by
  intro z hz
  unfold aw_I at hz
  by_cases q : (mm_k M a).1 = 20 ∧ 0 ≤ j.toInt ∧ j.toInt < (mm_k M a).2
  · rw [if_pos q] at hz
    obtain ⟨q1, q2⟩ := q
    obtain ⟨h1, h2, h3⟩ := mm_k_in (l := (mm_k M a).2) (show mm_k M a = (20, (mm_k M a).2) by rw [← q1]) (by omega)
    have h4 : (mm_K M a).2 = (mm_k M a).2 := by rw [h3]
    refine wp_mem (M1 := mm_sI M a j.toInt.toNat x) (L' := L) (S' := S) rfl rfl rfl (fun hw hL hS => ⟨hw, hL, hS.tl.tl.tl⟩) (fun p l e R s m args below meth c9 H locs cells slots Q ls ad hcx hw hS hls hwr hva kk => ?_) rfl (kk _ z hz)
    obtain ⟨c1, c2, c3, c4, c5, c6, c7, c8, c9', c10, c11, c12⟩ := id hcx
    rw [List.map_cons, List.map_cons, List.map_cons, cv_in hw h1 h2]
    have he := ws_get (G := G) (ad := ad) h1 h2
    rw [en_20 (by rw [h3])] at he
    refine va_iast c1 c2 (cx_K hcx) hwr.1 hwr.2 hva (a - 1) 0 he rfl (va_in (by rw [h4]; exact q2)) (mi_at c12 h) (fun H1 locs1 b1 b2 b3 => kk H1 locs1 (wr_set (M := M) rfl h1 h2 (fun b hb => en_sI hb) ?_ b1 b2) b3)
    rw [en_20 (show (mm_K (mm_sI M a j.toInt.toNat x) a).1 = 20 by show (mm_K M a).1 = 20; rw [h3])]
    have e8 : mm_I (mm_sI M a j.toInt.toNat x) a = upd (mm_I M a) j.toNatClampNeg x := by
      funext y
      skip
      show (if a = a ∧ y = j.toInt.toNat then x else mm_I M a y) = (if y = j.toNatClampNeg then x else mm_I M a y)
      have e7 : j.toNatClampNeg = j.toInt.toNat := rfl
      rw [e7]
      by_cases c0 : y = j.toInt.toNat
      · rw [if_pos ⟨rfl, c0⟩, if_pos c0]
      · rw [if_neg (fun q => c0 q.2), if_neg c0]
    rw [e8]
    rfl
  · rw [if_neg q] at hz; cases hz
theorem im_laload (i pc : Nat) {a : Nat} {j : Int32} {kf : Int64 → Option ρ} (h : (mi_tb mi)[i]? = some (pc, .laload, 1)) (kk : ∀ v : Int64, im_I mi fr lo G M0 f (kf v) (pc + 1) L (.long v :: S) M) : im_I mi fr lo G M0 f ((ar_J M a j).bind kf) pc L (.int j :: .ref a :: S) M := by
  intro z hz
  unfold ar_J at hz
  by_cases q : (mm_k M a).1 = 21 ∧ 0 ≤ j.toInt ∧ j.toInt < (mm_k M a).2
  · rw [if_pos q] at hz
    obtain ⟨q1, q2⟩ := q
    obtain ⟨h1, h2, h3⟩ := mm_k_in (l := (mm_k M a).2) (show mm_k M a = (21, (mm_k M a).2) by rw [← q1]) (by omega)
    have h4 : (mm_K M a).2 = (mm_k M a).2 := by rw [h3]
    refine wp_mem (M1 := M) (L' := L) (S' := .long (mm_J M a j.toInt.toNat) :: S) rfl rfl rfl (fun hw hL hS => ⟨hw, hL, ok_S.cons trivial hS.tl.tl⟩) (fun p l e R s m args below meth c9 H locs cells slots Q ls ad hcx hw hS hls hwr hva kk => ?_) rfl (kk _ z hz)
    have b := kk H locs hwr hva
    obtain ⟨c1, c2, c3, c4, c5, c6, c7, c8, c9', c10, c11, c12⟩ := id hcx
    rw [List.map_cons, List.map_cons, cv_in hw h1 h2]
    have he := ws_get (G := G) (ad := ad) h1 h2
    rw [en_21 (by rw [h3])] at he
    exact va_lald c1 c2 (cx_K hcx) hwr.1 (a - 1) 1 he rfl (va_in (by rw [h4]; exact q2)) (mi_at c12 h) b
  · rw [if_neg q] at hz; cases hz
theorem im_lastore (i pc : Nat) {a : Nat} {j : Int32} {x : Int64} {kf : mm_T → Option ρ} (h : (mi_tb mi)[i]? = some (pc, .lastore, 1)) (kk : ∀ M1 : mm_T, im_I mi fr lo G M0 f (kf M1) (pc + 1) L S M1) : im_I mi fr lo G M0 f ((aw_J M a j x).bind kf) pc L (.long x :: .int j :: .ref a :: S) M := by
  intro z hz
  unfold aw_J at hz
  by_cases q : (mm_k M a).1 = 21 ∧ 0 ≤ j.toInt ∧ j.toInt < (mm_k M a).2
  · rw [if_pos q] at hz
    obtain ⟨q1, q2⟩ := q
    obtain ⟨h1, h2, h3⟩ := mm_k_in (l := (mm_k M a).2) (show mm_k M a = (21, (mm_k M a).2) by rw [← q1]) (by omega)
    have h4 : (mm_K M a).2 = (mm_k M a).2 := by rw [h3]
    refine wp_mem (M1 := mm_sJ M a j.toInt.toNat x) (L' := L) (S' := S) rfl rfl rfl (fun hw hL hS => ⟨hw, hL, hS.tl.tl.tl⟩) (fun p l e R s m args below meth c9 H locs cells slots Q ls ad hcx hw hS hls hwr hva kk => ?_) rfl (kk _ z hz)
    obtain ⟨c1, c2, c3, c4, c5, c6, c7, c8, c9', c10, c11, c12⟩ := id hcx
    rw [List.map_cons, List.map_cons, List.map_cons, cv_in hw h1 h2]
    have he := ws_get (G := G) (ad := ad) h1 h2
    rw [en_21 (by rw [h3])] at he
    refine va_last c1 c2 (cx_K hcx) hwr.1 hwr.2 hva (a - 1) 1 he rfl (va_in (by rw [h4]; exact q2)) (mi_at c12 h) (fun H1 locs1 b1 b2 b3 => kk H1 locs1 (wr_set (M := M) rfl h1 h2 (fun b hb => en_sJ hb) ?_ b1 b2) b3)
    rw [en_21 (show (mm_K (mm_sJ M a j.toInt.toNat x) a).1 = 21 by show (mm_K M a).1 = 21; rw [h3])]
    have e8 : mm_J (mm_sJ M a j.toInt.toNat x) a = vp_updL (mm_J M a) j.toNatClampNeg x := by
      funext y
      skip
      show (if a = a ∧ y = j.toInt.toNat then x else mm_J M a y) = (if y = j.toNatClampNeg then x else mm_J M a y)
      have e7 : j.toNatClampNeg = j.toInt.toNat := rfl
      rw [e7]
      by_cases c0 : y = j.toInt.toNat
      · rw [if_pos ⟨rfl, c0⟩, if_pos c0]
      · rw [if_neg (fun q => c0 q.2), if_neg c0]
    rw [e8]
    rfl
  · rw [if_neg q] at hz; cases hz
theorem im_baload (i pc : Nat) {a : Nat} {j : Int32} {kf : Int32 → Option ρ} (h : (mi_tb mi)[i]? = some (pc, .baload, 1)) (kk : ∀ v : Int32, im_I mi fr lo G M0 f (kf v) (pc + 1) L (.int v :: S) M) : im_I mi fr lo G M0 f ((ar_Z M a j).bind kf) pc L (.int j :: .ref a :: S) M := by
  intro z hz
  unfold ar_Z at hz
  by_cases q : (mm_k M a).1 = 22 ∧ 0 ≤ j.toInt ∧ j.toInt < (mm_k M a).2
  · rw [if_pos q] at hz
    obtain ⟨q1, q2⟩ := q
    obtain ⟨h1, h2, h3⟩ := mm_k_in (l := (mm_k M a).2) (show mm_k M a = (22, (mm_k M a).2) by rw [← q1]) (by omega)
    have h4 : (mm_K M a).2 = (mm_k M a).2 := by rw [h3]
    refine wp_mem (M1 := M) (L' := L) (S' := .int (mm_I M a j.toInt.toNat) :: S) rfl rfl rfl (fun hw hL hS => ⟨hw, hL, ok_S.cons trivial hS.tl.tl⟩) (fun p l e R s m args below meth c9 H locs cells slots Q ls ad hcx hw hS hls hwr hva kk => ?_) rfl (kk _ z hz)
    have b := kk H locs hwr hva
    obtain ⟨c1, c2, c3, c4, c5, c6, c7, c8, c9', c10, c11, c12⟩ := id hcx
    rw [List.map_cons, List.map_cons, cv_in hw h1 h2]
    have he := ws_get (G := G) (ad := ad) h1 h2
    rw [en_22 (by rw [h3])] at he
    exact va_zald c1 c2 (cx_K hcx) hwr.1 (a - 1) 2 he rfl (va_in (by rw [h4]; exact q2)) (mi_at c12 h) b
  · rw [if_neg q] at hz; cases hz
theorem im_bastore (i pc : Nat) {a : Nat} {j : Int32} {x : Int32} {kf : mm_T → Option ρ} (h : (mi_tb mi)[i]? = some (pc, .bastore, 1)) (kk : ∀ M1 : mm_T, im_I mi fr lo G M0 f (kf M1) (pc + 1) L S M1) : im_I mi fr lo G M0 f ((aw_Z M a j x).bind kf) pc L (.int x :: .int j :: .ref a :: S) M := by
  intro z hz
  unfold aw_Z at hz
  by_cases q : (mm_k M a).1 = 22 ∧ (0 ≤ j.toInt ∧ j.toInt < (mm_k M a).2) ∧ (x = 0 ∨ x = 1)
  · rw [if_pos q] at hz
    obtain ⟨q1, q2, q3⟩ := q
    have e9 : vp_nar .boolean x = x := by rcases q3 with rfl | rfl <;> rfl
    obtain ⟨h1, h2, h3⟩ := mm_k_in (l := (mm_k M a).2) (show mm_k M a = (22, (mm_k M a).2) by rw [← q1]) (by omega)
    have h4 : (mm_K M a).2 = (mm_k M a).2 := by rw [h3]
    refine wp_mem (M1 := mm_sI M a j.toInt.toNat x) (L' := L) (S' := S) rfl rfl rfl (fun hw hL hS => ⟨hw, hL, hS.tl.tl.tl⟩) (fun p l e R s m args below meth c9 H locs cells slots Q ls ad hcx hw hS hls hwr hva kk => ?_) rfl (kk _ z hz)
    obtain ⟨c1, c2, c3, c4, c5, c6, c7, c8, c9', c10, c11, c12⟩ := id hcx
    rw [List.map_cons, List.map_cons, List.map_cons, cv_in hw h1 h2]
    have he := ws_get (G := G) (ad := ad) h1 h2
    rw [en_22 (by rw [h3])] at he
    refine va_zast c1 c2 (cx_K hcx) hwr.1 hwr.2 hva (a - 1) 2 he rfl (va_in (by rw [h4]; exact q2)) (mi_at c12 h) (fun H1 locs1 b1 b2 b3 => kk H1 locs1 (wr_set (M := M) rfl h1 h2 (fun b hb => en_sI hb) ?_ b1 b2) b3)
    rw [en_22 (show (mm_K (mm_sI M a j.toInt.toNat x) a).1 = 22 by show (mm_K M a).1 = 22; rw [h3])]
    have e8 : mm_I (mm_sI M a j.toInt.toNat x) a = upd (mm_I M a) j.toNatClampNeg (vp_nar .boolean x) := by
      funext y
      rw [e9]
      show (if a = a ∧ y = j.toInt.toNat then x else mm_I M a y) = (if y = j.toNatClampNeg then x else mm_I M a y)
      have e7 : j.toNatClampNeg = j.toInt.toNat := rfl
      rw [e7]
      by_cases c0 : y = j.toInt.toNat
      · rw [if_pos ⟨rfl, c0⟩, if_pos c0]
      · rw [if_neg (fun q => c0 q.2), if_neg c0]
    rw [e8]
    rfl
  · rw [if_neg q] at hz; cases hz
theorem im_aaload (i pc : Nat) {a : Nat} {j : Int32} {kf : Nat → Option ρ} (h : (mi_tb mi)[i]? = some (pc, .aaload, 1)) (kk : ∀ v : Nat, im_I mi fr lo G M0 f (kf v) (pc + 1) L (.ref v :: S) M) : im_I mi fr lo G M0 f ((ar_R M a j).bind kf) pc L (.int j :: .ref a :: S) M := by
  intro z hz
  unfold ar_R at hz
  by_cases q : (mm_k M a).1 = 23 ∧ 0 ≤ j.toInt ∧ j.toInt < (mm_k M a).2
  · rw [if_pos q] at hz
    obtain ⟨q1, q2⟩ := q
    obtain ⟨h1, h2, h3⟩ := mm_k_in (l := (mm_k M a).2) (show mm_k M a = (23, (mm_k M a).2) by rw [← q1]) (by omega)
    have h4 : (mm_K M a).2 = (mm_k M a).2 := by rw [h3]
    refine wp_mem (M1 := M) (L' := L) (S' := .ref (mm_R M a j.toInt.toNat) :: S) rfl rfl rfl (fun hw hL hS => ⟨hw, hL, ok_S.cons (Or.inl (hw.2 _ _)) hS.tl.tl⟩) (fun p l e R s m args below meth c9 H locs cells slots Q ls ad hcx hw hS hls hwr hva kk => ?_) rfl (kk _ z hz)
    have b := kk H locs hwr hva
    obtain ⟨c1, c2, c3, c4, c5, c6, c7, c8, c9', c10, c11, c12⟩ := id hcx
    rw [List.map_cons, List.map_cons, cv_in hw h1 h2]
    have he := ws_get (G := G) (ad := ad) h1 h2
    rw [en_23 (by rw [h3])] at he
    exact va_aldq c1 c2 (cx_K hcx) hwr.1 (a - 1) 3 he rfl (va_in (by rw [h4]; exact q2)) (mi_at c12 h) b
  · rw [if_neg q] at hz; cases hz
theorem im_aastore (i pc : Nat) {a : Nat} {j : Int32} {x : Nat} {kf : mm_T → Option ρ} (h : (mi_tb mi)[i]? = some (pc, .aastore, 1)) (kk : ∀ M1 : mm_T, im_I mi fr lo G M0 f (kf M1) (pc + 1) L S M1) : im_I mi fr lo G M0 f ((aw_R M a j x).bind kf) pc L (.ref x :: .int j :: .ref a :: S) M := by
  intro z hz
  unfold aw_R at hz
  by_cases q : (mm_k M a).1 = 23 ∧ (0 ≤ j.toInt ∧ j.toInt < (mm_k M a).2) ∧ (mm_k M x).1 = 7
  · rw [if_pos q] at hz
    obtain ⟨q1, q2, q3⟩ := q
    obtain ⟨h1, h2, h3⟩ := mm_k_in (l := (mm_k M a).2) (show mm_k M a = (23, (mm_k M a).2) by rw [← q1]) (by omega)
    obtain ⟨x1, x2, x3⟩ := mm_k_in1 q3 (by omega)
    have h4 : (mm_K M a).2 = (mm_k M a).2 := by rw [h3]
    refine wp_mem (M1 := mm_sR M a j.toInt.toNat x) (L' := L) (S' := S) rfl rfl rfl (fun hw hL hS => ⟨hw.sR _ _ x2, hL, hS.tl.tl.tl⟩) (fun p l e R s m args below meth c9 H locs cells slots Q ls ad hcx hw hS hls hwr hva kk => ?_) rfl (kk _ z hz)
    obtain ⟨c1, c2, c3, c4, c5, c6, c7, c8, c9', c10, c11, c12⟩ := id hcx
    rw [List.map_cons, List.map_cons, List.map_cons, cv_in hw h1 h2, cv_in hw x1 x2]
    have he := ws_get (G := G) (ad := ad) h1 h2
    rw [en_23 (by rw [h3])] at he
    have hx := ws_get (G := G) (ad := ad) x1 x2
    rw [en_obj x3 (by omega)] at hx
    refine va_astq c1 c2 (cx_K hcx) hwr.1 hwr.2 hva (a - 1) 3 (x - 1) 7 he rfl hx (cl_at 7 (by omega)) (va_in (by rw [h4]; exact q2)) (mi_at c12 h) (fun H1 locs1 b1 b2 b3 => kk H1 locs1 (wr_set (M := M) rfl h1 h2 (fun b hb => en_sR hb) ?_ b1 b2) b3)
    rw [en_23 (show (mm_K (mm_sR M a j.toInt.toNat x) a).1 = 23 by show (mm_K M a).1 = 23; rw [h3])]
    have e8 : (fun y => cv_q G ad (mm_R (mm_sR M a j.toInt.toNat x) a y)) = va_up (fun y => cv_q G ad (mm_R M a y)) j.toNatClampNeg (some (ad x)) := by
      funext y
      show cv_q G ad (if a = a ∧ y = j.toInt.toNat then x else mm_R M a y) = (if y = j.toNatClampNeg then some (ad x) else cv_q G ad (mm_R M a y))
      have e7 : j.toNatClampNeg = j.toInt.toNat := rfl
      rw [e7]
      by_cases c0 : y = j.toInt.toNat
      · rw [if_pos ⟨rfl, c0⟩, if_pos c0]
        unfold cv_q
        have := hw.1
        rw [if_neg (by omega), if_pos (by omega)]
      · rw [if_neg (fun q => c0 q.2), if_neg c0]
    rw [e8]
    rfl
  · rw [if_neg q] at hz; cases hz
theorem im_arraylength (i pc : Nat) {a : Nat} {kf : Int32 → Option ρ} (h : (mi_tb mi)[i]? = some (pc, .arraylength, 1)) (kk : ∀ v : Int32, im_I mi fr lo G M0 f (kf v) (pc + 1) L (.int v :: S) M) : im_I mi fr lo G M0 f ((al_N M a).bind kf) pc L (.ref a :: S) M := by
  intro z hz
  unfold al_N at hz
  by_cases q : 20 ≤ (mm_k M a).1 ∧ (mm_k M a).1 ≤ 23
  · rw [if_pos q] at hz
    obtain ⟨q1, q2⟩ := q
    obtain ⟨h1, h2, h3⟩ := mm_k_in1 (c := (mm_k M a).1) rfl (by omega)
    have h4 : (mm_K M a).2 = (mm_k M a).2 := by
      have := (mm_k_in (c := (mm_k M a).1) (l := (mm_k M a).2) rfl (by omega)).2.2
      rw [this]
    refine wp_mem (M1 := M) (L' := L) (S' := .int (Int32.ofNat (mm_k M a).2) :: S) rfl rfl rfl (fun hw hL hS => ⟨hw, hL, ok_S.cons trivial hS.tl⟩) (fun p l e R s m args below meth c9 H locs cells slots Q ls ad hcx hw hS hls hwr hva kk => ?_) rfl (kk _ z hz)
    have b := kk H locs hwr hva
    obtain ⟨c1, c2, c3, c4, c5, c6, c7, c8, c9', c10, c11, c12⟩ := id hcx
    rw [List.map_cons, cv_in hw h1 h2]
    have he := ws_get (G := G) (ad := ad) h1 h2
    rcases (show (mm_K M a).1 = 20 ∨ (mm_K M a).1 = 21 ∨ (mm_K M a).1 = 22 ∨ (mm_K M a).1 = 23 by omega) with g | g | g | g
    · rw [en_20 g] at he
      exact va_alen c1 c2 (cx_K hcx) hwr.1 (a - 1) 0 he (ty := .int) rfl (by rw [← h4]) (mi_at c12 h) b
    · rw [en_21 g] at he
      exact va_alen c1 c2 (cx_K hcx) hwr.1 (a - 1) 1 he (ty := .long) rfl (by rw [← h4]) (mi_at c12 h) b
    · rw [en_22 g] at he
      exact va_alen c1 c2 (cx_K hcx) hwr.1 (a - 1) 2 he (ty := .boolean) rfl (by rw [← h4]) (mi_at c12 h) b
    · rw [en_23 g] at he
      exact va_alen c1 c2 (cx_K hcx) hwr.1 (a - 1) 3 he (ty := .object "DataflowLab$Program") rfl (by rw [← h4]) (mi_at c12 h) b
  · rw [if_neg q] at hz; cases hz
theorem mm_al_same {kd : Nat × Nat} {w b : Nat} (hb : b ≤ mm_n M) : mm_K (mm_al M kd w) b = mm_K M b ∧ mm_I (mm_al M kd w) b = mm_I M b ∧ mm_J (mm_al M kd w) b = mm_J M b ∧ mm_R (mm_al M kd w) b = mm_R M b := by
  have hne : ¬ b = mm_n M + 1 := by omega
  refine ⟨if_neg hne, ?_, ?_, ?_⟩
  · funext j; exact if_neg hne
  · funext j; exact if_neg hne
  · funext j; exact if_neg hne
theorem mm_wf.al (h : mm_wf M) (kd : Nat × Nat) (w : Nat) (hb : mm_n M + 1 < st_B) : mm_wf (mm_al M kd w) := by
  refine ⟨hb, fun a j => ?_⟩
  show (if a = mm_n M + 1 then 0 else mm_R M a j) ≤ mm_n M + 1
  split
  · omega
  · exact Nat.le_succ_of_le (h.2 a j)
/-- a cell is made -/
theorem wp_al {pc pc' : Nat} {kd : Nat × Nat} {w : Nat} (hb : mm_n M + 1 < st_B) (hok : ok_S M S → ok_S M S')
    (h : ∀ (p : Program) (l : Launch) (e : Env) (R : Room) (s : State) (m : MethodId) (args : Array Value) (below : List Frame) (meth : Method) (c : Code) (H : Heap) (locs : List Loc) (cells slots : Nat) (Q : State → Prop) (ls : Array Slot) (ad : Nat → Nat),
      cx_C mi G p l s m args meth c → mm_wf M → wr_h G ad M H → va_S (gl_f G) s.heap H locs → cells + 1 ≤ R.cells → slots + w ≤ R.slots →
      (∀ (q : Nat) (H1 : Heap), va_P (gl_D G) vwCl (ws_w G ad M ++ [(q, en_e G (fun r => if r = mm_n M + 1 then q else ad r) (mm_al M kd w) (mm_n M + 1))]) H1 → va_D (gl_f G) (ws_w G ad M ++ [(q, en_e G (fun r => if r = mm_n M + 1 then q else ad r) (mm_al M kd w) (mm_n M + 1))]) → va_S (gl_f G) s.heap H1 locs →
        W p l e R s m args below meth c H1 locs (cells + 1) (slots + w) Q (F0 m pc' ls (.ref q :: S'.map (cv_v G ad)))) → W p l e R s m args below meth c H locs cells slots Q (F0 m pc ls (S.map (cv_v G ad))))
    (k : wp_W mi fr lo G M0 r M' pc' L (.ref (mm_n M + 1) :: S') (mm_al M kd w)) : wp_W mi fr lo G M0 r M' pc L S M := by
  intro hw hL hS
  have hS' := hok hS
  have hn1 : mm_n M ≤ mm_n (mm_al M kd w) := Nat.le_succ _
  obtain ⟨k1, k2⟩ := k (hw.al kd w hb) (hL.mono hn1) (ok_S.cons (Or.inl (Nat.le_refl _)) (hS'.mono hn1))
  have g1 : mm_n M + 1 ≤ mm_n M' := k1.1
  have g2 : mm_c M + 1 ≤ mm_c M' := k1.2.1
  have g3 : mm_u M + w ≤ mm_u M' := k1.2.2.1
  refine ⟨⟨by omega, by omega, by omega, k1.2.2.2⟩, ?_⟩
  intro p l e R s m args below meth c H locs ls ad ad0 hcx a1 a2 a3 a4 a5 a6 a7 a8 a9 a10 a11
  refine h p l e R s m args below meth c H locs _ _ _ ls ad hcx hw a9 a11 (by omega) (by omega) (fun q H1 b1 b2 b3 => ?_)
  have hex : ex_a ad (fun r => if r = mm_n M + 1 then q else ad r) M := fun i hi => if_neg (by omega)
  have hwr : wr_h G (fun r => if r = mm_n M + 1 then q else ad r) (mm_al M kd w) H1 := by
    unfold wr_h
    rw [ws_push (M := M) (q := q) rfl hw (fun b hb => mm_al_same hb)]
    exact ⟨b1, b2⟩
  have hlv : lv_has ls (mi_nL mi) (lv_l G (fun r => if r = mm_n M + 1 then q else ad r) 0 L) := a10.less fun x hx => by
    obtain ⟨j, v, hj, e9⟩ := (lv_l_iff _ _ _).mp hx
    rw [cv_v.same hw hex (hL v (List.mem_of_getElem? hj))] at e9
    exact (lv_l_iff _ _ _).mpr ⟨j, v, hj, e9⟩
  have z := k2 p l e R s m args below meth c H1 locs ls _ ad0 hcx a1 a2 a3 a4 (by show _ ≤ mm_n M + 1; omega) (by show _ ≤ mm_c M + 1; omega) (by show _ ≤ mm_u M + w; omega) (fun i hi => (hex i (by omega)).trans (a8 i hi)) hwr hlv b3
  have e1 : mm_c (mm_al M kd w) - mm_c M0 = mm_c M - mm_c M0 + 1 := by show mm_c M + 1 - mm_c M0 = _; omega
  have e2 : mm_u (mm_al M kd w) - mm_u M0 = mm_u M - mm_u M0 + w := by show mm_u M + w - mm_u M0 = _; omega
  have e0 : cv_v G (fun r => if r = mm_n M + 1 then q else ad r) (.ref (mm_n M + 1)) = .ref ((fun r => if r = mm_n M + 1 then q else ad r) (mm_n M + 1)) := cv_in (M := mm_al M kd w) (hw.al kd w hb) (by omega) (Nat.le_refl _)
  rw [e1, e2, List.map_cons, e0, cv_S.same hw hex hS'] at z
  have e3 : (if mm_n M + 1 = mm_n M + 1 then q else ad (mm_n M + 1)) = q := if_pos rfl
  simp only [e3] at z
  exact z
theorem mm_al_K {kd : Nat × Nat} {w : Nat} : mm_K (mm_al M kd w) (mm_n M + 1) = kd := if_pos rfl
theorem mm_al_I {kd : Nat × Nat} {w : Nat} : mm_I (mm_al M kd w) (mm_n M + 1) = fun _ => 0 := by funext j; exact if_pos rfl
theorem mm_al_J {kd : Nat × Nat} {w : Nat} : mm_J (mm_al M kd w) (mm_n M + 1) = fun _ => 0 := by funext j; exact if_pos rfl
theorem mm_al_R {kd : Nat × Nat} {w : Nat} : mm_R (mm_al M kd w) (mm_n M + 1) = fun _ => 0 := by funext j; exact if_pos rfl
/-- the class of an array is the one that its name finds -/
theorem ar_same {s : State} {tys : List (ClassId × FieldType)} {cA : ClassId} {ty : FieldType} (hK : va_K (gl_D G) vwCl (gl_t G) s) {k0 : Nat} {cB : ClassId} (hB : (gl_t G)[k0]? = some (cB, ty)) (h2 : va_K (gl_D G) vwCl (tys ++ [(cA, ty)]) s) : cA = cB := by
  have e1 := (hK.2 k0 _ hB).2
  have e2 := (h2.2 tys.length (cA, ty) (by simp)).2
  cases ty with
  | object C =>
    obtain ⟨-, -, -, -, -, e1⟩ := e1
    obtain ⟨-, -, -, -, -, e2⟩ := e2
    exact Option.some.inj (e2.symm.trans e1)
  | _ => exact Option.some.inj (e2.symm.trans e1)
theorem im_newI (i pc : Nat) {n : Int32} {kf : Nat → mm_T → Option ρ} (h : (mi_tb mi)[i]? = some (pc, .newarray .int, 2)) (hw : Cond.arrayClass .int ∈ tb_G) (kk : ∀ (q : Nat) (M1 : mm_T), im_I mi fr lo G M0 f (kf q M1) (pc + 2) L (.ref q :: S) M1) : im_I mi fr lo G M0 f (bd_2 (na_K 20 M n) kf) pc L (.int n :: S) M := by
  intro z hz
  unfold bd_2 na_K at hz
  by_cases q : (0 ≤ n.toInt ∧ n.toInt ≤ 100000) ∧ mm_n M + 1 < st_B
  · rw [if_pos q] at hz
    obtain ⟨⟨q1, q2⟩, q3⟩ := q
    refine wp_al (kd := (20, n.toInt.toNat)) (w := n.toInt.toNat) (S' := S) q3 (fun hS => hS.tl) (fun p l e R s m args below meth c9 H locs cells slots Q ls ad hcx hwf hwr hva hc hs kk => ?_) (kk _ _ z hz)
    obtain ⟨c1, c2, c3, c4, c5, c6, c7, c8, c9', c10, c11, c12⟩ := id hcx
    have hn0 : ¬ n < 0 := by
      rw [Int32.lt_iff_toInt_lt]
      show ¬ n.toInt < 0
      omega
    have hN : n.toNatClampNeg = n.toInt.toNat := rfl
    refine va_newa (atype := .int) (ty := .int) c1 c2 (c7 _ hw) rfl (cx_K hcx) hwr.1 hwr.2 hva (fun q hq => Nat.le_trans c8.2.2 hq) (a0 := (n.toInt.toNat, .inl (fun _ => 0))) (fun cA => rfl) hn0 hN (by show n.toInt.toNat * 4 ≤ 536870912; omega) hc hs (mi_at c12 h) (fun q cA H1 b0 b1 b2 b3 => ?_)
    have eA : cA = gl_A G 20 := ar_same (cx_K hcx) (k0 := 0) rfl b0
    subst eA
    have e9 : en_e G (fun r => if r = mm_n M + 1 then q else ad r) (mm_al M (20, n.toInt.toNat) n.toInt.toNat) (mm_n M + 1) = .inl (gl_A G 20, n.toInt.toNat, .inl (fun _ => 0)) := by
      rw [en_20 (by rw [mm_al_K]), mm_al_K, mm_al_I]
    refine kk q H1 ?_ ?_ b3
    · rw [e9]; exact b1
    · rw [e9]; exact b2
  · rw [if_neg q] at hz; cases hz
theorem im_newJ (i pc : Nat) {n : Int32} {kf : Nat → mm_T → Option ρ} (h : (mi_tb mi)[i]? = some (pc, .newarray .long, 2)) (hw : Cond.arrayClass .long ∈ tb_G) (kk : ∀ (q : Nat) (M1 : mm_T), im_I mi fr lo G M0 f (kf q M1) (pc + 2) L (.ref q :: S) M1) : im_I mi fr lo G M0 f (bd_2 (na_K 21 M n) kf) pc L (.int n :: S) M := by
  intro z hz
  unfold bd_2 na_K at hz
  by_cases q : (0 ≤ n.toInt ∧ n.toInt ≤ 100000) ∧ mm_n M + 1 < st_B
  · rw [if_pos q] at hz
    obtain ⟨⟨q1, q2⟩, q3⟩ := q
    refine wp_al (kd := (21, n.toInt.toNat)) (w := n.toInt.toNat) (S' := S) q3 (fun hS => hS.tl) (fun p l e R s m args below meth c9 H locs cells slots Q ls ad hcx hwf hwr hva hc hs kk => ?_) (kk _ _ z hz)
    obtain ⟨c1, c2, c3, c4, c5, c6, c7, c8, c9', c10, c11, c12⟩ := id hcx
    have hn0 : ¬ n < 0 := by
      rw [Int32.lt_iff_toInt_lt]
      show ¬ n.toInt < 0
      omega
    have hN : n.toNatClampNeg = n.toInt.toNat := rfl
    refine va_newa (atype := .long) (ty := .long) c1 c2 (c7 _ hw) rfl (cx_K hcx) hwr.1 hwr.2 hva (fun q hq => Nat.le_trans c8.2.2 hq) (a0 := (n.toInt.toNat, .inr (.inl (fun _ => 0)))) (fun cA => rfl) hn0 hN (by show n.toInt.toNat * 8 ≤ 536870912; omega) hc hs (mi_at c12 h) (fun q cA H1 b0 b1 b2 b3 => ?_)
    have eA : cA = gl_A G 21 := ar_same (cx_K hcx) (k0 := 1) rfl b0
    subst eA
    have e9 : en_e G (fun r => if r = mm_n M + 1 then q else ad r) (mm_al M (21, n.toInt.toNat) n.toInt.toNat) (mm_n M + 1) = .inl (gl_A G 21, n.toInt.toNat, .inr (.inl (fun _ => 0))) := by
      rw [en_21 (by rw [mm_al_K]), mm_al_K, mm_al_J]
    refine kk q H1 ?_ ?_ b3
    · rw [e9]; exact b1
    · rw [e9]; exact b2
  · rw [if_neg q] at hz; cases hz
theorem im_newZ (i pc : Nat) {n : Int32} {kf : Nat → mm_T → Option ρ} (h : (mi_tb mi)[i]? = some (pc, .newarray .boolean, 2)) (hw : Cond.arrayClass .boolean ∈ tb_G) (kk : ∀ (q : Nat) (M1 : mm_T), im_I mi fr lo G M0 f (kf q M1) (pc + 2) L (.ref q :: S) M1) : im_I mi fr lo G M0 f (bd_2 (na_K 22 M n) kf) pc L (.int n :: S) M := by
  intro z hz
  unfold bd_2 na_K at hz
  by_cases q : (0 ≤ n.toInt ∧ n.toInt ≤ 100000) ∧ mm_n M + 1 < st_B
  · rw [if_pos q] at hz
    obtain ⟨⟨q1, q2⟩, q3⟩ := q
    refine wp_al (kd := (22, n.toInt.toNat)) (w := n.toInt.toNat) (S' := S) q3 (fun hS => hS.tl) (fun p l e R s m args below meth c9 H locs cells slots Q ls ad hcx hwf hwr hva hc hs kk => ?_) (kk _ _ z hz)
    obtain ⟨c1, c2, c3, c4, c5, c6, c7, c8, c9', c10, c11, c12⟩ := id hcx
    have hn0 : ¬ n < 0 := by
      rw [Int32.lt_iff_toInt_lt]
      show ¬ n.toInt < 0
      omega
    have hN : n.toNatClampNeg = n.toInt.toNat := rfl
    refine va_newa (atype := .boolean) (ty := .boolean) c1 c2 (c7 _ hw) rfl (cx_K hcx) hwr.1 hwr.2 hva (fun q hq => Nat.le_trans c8.2.2 hq) (a0 := (n.toInt.toNat, .inl (fun _ => 0))) (fun cA => rfl) hn0 hN (by show n.toInt.toNat * 1 ≤ 536870912; omega) hc hs (mi_at c12 h) (fun q cA H1 b0 b1 b2 b3 => ?_)
    have eA : cA = gl_A G 22 := ar_same (cx_K hcx) (k0 := 2) rfl b0
    subst eA
    have e9 : en_e G (fun r => if r = mm_n M + 1 then q else ad r) (mm_al M (22, n.toInt.toNat) n.toInt.toNat) (mm_n M + 1) = .inl (gl_A G 22, n.toInt.toNat, .inl (fun _ => 0)) := by
      rw [en_22 (by rw [mm_al_K]), mm_al_K, mm_al_I]
    refine kk q H1 ?_ ?_ b3
    · rw [e9]; exact b1
    · rw [e9]; exact b2
  · rw [if_neg q] at hz; cases hz
theorem im_newR (i pc : Nat) {ix : Nat} {n : Int32} {kf : Nat → mm_T → Option ρ} (h : (mi_tb mi)[i]? = some (pc, .anewarray ix, 3)) (hw : Cond.classLink (mi_own mi) ix "DataflowLab$Program" ∈ tb_G) (kk : ∀ (q : Nat) (M1 : mm_T), im_I mi fr lo G M0 f (kf q M1) (pc + 3) L (.ref q :: S) M1) : im_I mi fr lo G M0 f (bd_2 (na_K 23 M n) kf) pc L (.int n :: S) M := by
  intro z hz
  unfold bd_2 na_K at hz
  by_cases q : (0 ≤ n.toInt ∧ n.toInt ≤ 100000) ∧ mm_n M + 1 < st_B
  · rw [if_pos q] at hz
    obtain ⟨⟨q1, q2⟩, q3⟩ := q
    refine wp_al (kd := (23, n.toInt.toNat)) (w := n.toInt.toNat) (S' := S) q3 (fun hS => hS.tl) (fun p l e R s m args below meth c9 H locs cells slots Q ls ad hcx hwf hwr hva hc hs kk => ?_) (kk _ _ z hz)
    obtain ⟨c1, c2, c3, c4, c5, c6, c7, c8, c9', c10, c11, c12⟩ := id hcx
    have hn0 : ¬ n < 0 := by
      rw [Int32.lt_iff_toInt_lt]
      show ¬ n.toInt < 0
      omega
    have hN : n.toNatClampNeg = n.toInt.toNat := rfl
    refine va_newq c1 c2 c6 (c7 _ hw) c8.1.2.2.2.2.2.2.1 (cx_K hcx) hwr.1 hwr.2 hva (fun q hq => Nat.le_trans c8.2.2 hq) hn0 hN (by omega) hc hs (mi_at c12 h) (fun q cA H1 b0 b1 b2 b3 => ?_)
    have eA : cA = gl_A G 23 := ar_same (cx_K hcx) (k0 := 3) rfl b0
    subst eA
    have e9 : en_e G (fun r => if r = mm_n M + 1 then q else ad r) (mm_al M (23, n.toInt.toNat) n.toInt.toNat) (mm_n M + 1) = .inl (gl_A G 23, n.toInt.toNat, .inr (.inr (.inr (.inr (fun _ => none))))) := by
      rw [en_23 (by rw [mm_al_K]), mm_al_K, mm_al_R]
      rfl
    refine kk q H1 ?_ ?_ b3
    · rw [e9]; exact b1
    · rw [e9]; exact b2
  · rw [if_neg q] at hz; cases hz
/-- a class that can be made, by entry ix of the own class -/
def nw_W (own : String) (ix c : Nat) : Prop := c < 12 ∧ Cond.classLink own ix (kn_C c) ∈ tb_G ∧ Cond.instantiable (kn_C c) (kn_N c) ∈ tb_G ∧ Cond.initialized (kn_C c) ∈ tb_G
theorem kn_def : ∀ c, c < 12 → ∀ j, j < kn_N c → defaultValue (kn_t c j) = if kn_f c j = 2 then .null else .int 0 := by decide +kernel
theorem im_new (i pc : Nat) {ix c : Nat} {kf : Nat → mm_T → Option ρ} (h : (mi_tb mi)[i]? = some (pc, .new ix, 3)) (hn : nw_W (mi_own mi) ix c) (kk : ∀ (q : Nat) (M1 : mm_T), im_I mi fr lo G M0 f (kf q M1) (pc + 3) L (.ref q :: S) M1) : im_I mi fr lo G M0 f (bd_2 (no_C c M) kf) pc L S M := by
  intro z hz
  unfold bd_2 no_C at hz
  by_cases q : mm_n M + 1 < st_B
  · rw [if_pos q] at hz
    obtain ⟨n1, n2, n3, n4⟩ := hn
    refine wp_al (kd := (c, 0)) (w := kn_N c) (S' := S) q (fun hS => hS) (fun p l e R s m args below meth c9 H locs cells slots Q ls ad hcx hwf hwr hva hc hs kk => ?_) (kk _ _ z hz)
    obtain ⟨c1, c2, c3, c4, c5, c6, c7, c8, c9', c10, c11, c12⟩ := id hcx
    refine va_new (fs := (List.range (kn_N c)).map (fun j => if kn_f c j = 2 then Value.null else .int 0)) c1 c2 c7 (cl_in c n1) (kn_t c) (cl_ty c n1) c6 (c7 _ n2) (c7 _ n3) (c7 _ n4) (cx_K hcx) hwr.1 hwr.2 hva (fun q hq => Nat.le_trans c8.2.2 hq) (cl_at c n1) (fun j hj => ?_) hc hs (mi_at c12 h) (fun q H1 b1 b2 b3 => ?_)
    · rw [kn_def c n1 j hj]
      unfold vp_V
      rw [List.getD_eq_getElem?_getD, List.getElem?_map, List.getElem?_range hj]
      rfl
    · have e9 : en_e G (fun r => if r = mm_n M + 1 then q else ad r) (mm_al M (c, 0) (kn_N c)) (mm_n M + 1) = .inr (c, (List.range (kn_N c)).map (fun j => if kn_f c j = 2 then Value.null else .int 0)) := by
        rw [en_obj (c := c) (by rw [mm_al_K]) n1]
        have e8 : fv_v G (fun r => if r = mm_n M + 1 then q else ad r) (mm_al M (c, 0) (kn_N c)) (mm_n M + 1) = fun j => if kn_f c j = 2 then Value.null else .int 0 := by
          funext j
          unfold fv_v
          rw [mm_al_K, mm_al_I, mm_al_R]
          rfl
        rw [e8]
      refine kk q H1 ?_ ?_ b3
      · rw [e9]; exact b1
      · rw [e9]; exact b2
  · rw [if_neg q] at hz; cases hz
theorem im_objInit (i pc : Nat) {ix a : Nat} {X : Option ρ} (hw : Cond.methodLink (mi_own mi) ix Lib.objectInit ∈ tb_G ∧ Cond.instanceMethod Lib.objectInit ∈ tb_G ∧ Cond.code Lib.objectInit ⟨#[0xb1]⟩ 1 none ∈ tb_G) (h : (mi_tb mi)[i]? = some (pc, .invokespecial ix, 3)) (ha : 1 ≤ a ∧ a ≤ mm_n M) (hfr : Nat.ble 1 fr = true) (hlo : Nat.ble 20 lo = true) (hS8 : Nat.ble (S.map fun v => v.category).sum 8 = true) (kk : im_I mi fr lo G M0 f X (pc + 3) L S M) : im_I mi fr lo G M0 f X pc L (.ref a :: S) M := by
  intro z hz
  have k := kk z hz
  intro hw0 hL hS
  obtain ⟨k1, k2⟩ := k hw0 hL hS.tl
  refine ⟨k1, ?_⟩
  intro p l e R s m args below meth c H locs ls ad ad0 hcx a1 a2 a3 a4 a5 a6 a7 a8 a9 a10 a11
  have q := k2 p l e R s m args below meth c H locs ls ad ad0 hcx a1 a2 a3 a4 a5 a6 a7 a8 a9 a10 a11
  obtain ⟨c1, c2, c3, c4, c5, c6, c7, c8, c9', c10, c11, c12⟩ := id hcx
  have hfr := Nat.le_of_ble_eq_true hfr
  have hlo := Nat.le_of_ble_eq_true hlo
  have hS8 := Nat.le_of_ble_eq_true hS8
  rw [List.map_cons, cv_in hw0 ha.1 ha.2]
  have e9 : ((S.map (cv_v G ad)).map fun v => v.category).sum = (S.map fun v => v.category).sum := by
    rw [List.map_map]
    congr 1
    exact List.map_congr_left fun v _ => cv_cat G ad v
  exact W.objInit c1 c2 c6 (c7 _ hw.1) (c7 _ hw.2.1) (c7 _ hw.2.2) (g := F0 m pc ls (.ref (ad a) :: S.map (cv_v G ad))) rfl (by show ls.size = c.maxLocals; rw [c3]; exact a10.1) rfl (mi_at c12 h) (by omega) (by show 2 * 0 + _ + 12 ≤ _; rw [e9]; omega) q
end HI
