/-! ===== calls, ends, throws ===== -/
section CL
variable {mi mi' : mi_T} {fr lo fr' lo' : Nat} {G : gl_T} {M0 : mm_T} {r : rs_T} {M' : mm_T} {L L' : List (Option Value)} {S S' Sf : List Value} {M M1 : mm_T} {ov : Option Value} {E : String}
/-- the call at pc comes back with ov and M1 -/
def cp_C (mi : mi_T) (fr lo : Nat) (G : gl_T) (pc : Nat) (L : List (Option Value)) (S Sf : List Value) (M : mm_T) (ov : Option Value) (M1 : mm_T) : Prop := ∀ (M0 : mm_T) (r : rs_T) (M' : mm_T), wp_W mi fr lo G M0 r M' (pc + 3) L (ov.toList ++ S) M1 → wp_W mi fr lo G M0 r M' pc L Sf M
theorem cv_sum {ad : Nat → Nat} (S : List Value) : ((S.map (cv_v G ad)).map fun v => v.category).sum = (S.map fun v => v.category).sum := by
  rw [List.map_map]
  congr 1
  exact List.map_congr_left fun v _ => cv_cat G ad v
theorem mo_M.trans {M2 : mm_T} (h : mm_n M ≤ mm_n M1 ∧ mm_c M ≤ mm_c M1 ∧ mm_u M ≤ mm_u M1) (k : mo_M M1 M2 r) : mo_M M M2 r := ⟨Nat.le_trans h.1 k.1, Nat.le_trans h.2.1 k.2.1, Nat.le_trans h.2.2 k.2.2.1, k.2.2.2⟩
theorem lv_same {ad ad' : Nat → Nat} {ls : Array Slot} {nL : Nat} (hw : mm_wf M) (hL : ok_L M L) (hex : ex_a ad ad' M) (h : lv_has ls nL (lv_l G ad 0 L)) : lv_has ls nL (lv_l G ad' 0 L) := h.less fun x hx => by
  obtain ⟨j, v, hj, e9⟩ := (lv_l_iff _ _ _).mp hx
  rw [cv_v.same hw hex (hL v (List.mem_of_getElem? hj))] at e9
  exact (lv_l_iff _ _ _).mpr ⟨j, v, hj, e9⟩
theorem wp_of_run {pc : Nat} {a9 : (Nat → Nat) → Array Value} (hmo : mm_wf M → ok_S M Sf → mo_M M M1 (.inl ov) ∧ ok_S M S)
    (hrun : ∀ (p : Program) (l : Launch) (e : Env) (R : Room) (s : State) (m : MethodId) (args : Array Value) (below : List Frame) (meth : Method) (c : Code) (H : Heap) (locs : List Loc) (cells slots : Nat) (ls : Array Slot) (ad : Nat → Nat),
      cx_C mi G p l s m args meth c → fr ≤ R.frames → lo ≤ R.locals → mm_wf M → ok_S M Sf → cells + (mm_c M1 - mm_c M) ≤ R.cells → slots + (mm_u M1 - mm_u M) ≤ R.slots → ls.size = c.maxLocals → wr_h G ad M H → va_S (gl_f G) s.heap H locs →
      va_Run p l e R s m args below meth c H locs cells slots (mm_c M1 - mm_c M) (mm_u M1 - mm_u M) (F0 m pc ls (Sf.map (cv_v G ad))) (S.map (cv_v G ad)) (qc_Q G ad M ov M1 (a9 ad)) (gl_f G)) : cp_C mi fr lo G pc L S Sf M ov M1 := by
  intro M0 r M' k hw hL hSf
  obtain ⟨mo, hS⟩ := hmo hw hSf
  have hok : ok_S M1 (ov.toList ++ S) := by
    intro v hv
    rcases List.mem_append.mp hv with h | h
    · exact mo.2.2.2.2 v (by rw [Option.mem_toList] at h; rw [h])
    · exact (hS v h).mono mo.1
  obtain ⟨k1, k2⟩ := k mo.2.2.2.1 (hL.mono mo.1) hok
  have m1 := mo.2.1
  have m2 := mo.2.2.1
  have n1 := k1.2.1
  have n2 := k1.2.2.1
  refine ⟨k1.trans ⟨mo.1, m1, m2⟩, ?_⟩
  intro p l e R s m args below meth c H locs ls ad ad0 hcx a1 a2 a3 a4 a5 a6 a7 a8 a9' a10 a11
  intro T hT X
  obtain ⟨v, st₀, t, T', Lx, h0, X', hLx, e1, e2, ⟨ad', hv, hex, hwr', hF⟩, st⟩ := hrun p l e R s m args below meth c H locs _ _ ls ad hcx a1 a2 hw hSf (by omega) (by omega) (a10.1.trans hcx.2.2.1.symm) a9' a11 T hT X
  cases hv
  have hva : va_S (gl_f G) s.heap T'.heap (locs ++ Lx) := by
    rw [e1]
    refine ⟨Nat.le_trans a11.1 (by rw [← h0]; exact hF.1), fun q h1 h2 => ?_, fun q hq => ?_⟩
    · rw [hF.2 q (by rw [h0]; exact Nat.lt_of_lt_of_le h1 a11.1) h2, h0]
      exact a11.2.1 q h1 h2
    · rcases List.mem_append.mp hq with h | h
      · exact a11.2.2 q h
      · exact hLx q h
  have z := k2 p l e R s m args below meth c T'.heap (locs ++ Lx) ls ad' ad0 hcx a1 a2 a3 a4 (Nat.le_trans a5 mo.1) (Nat.le_trans a6 m1) (Nat.le_trans a7 m2) (fun i hi => (hex i (Nat.le_trans hi a5)).trans (a8 i hi)) (by rw [e1]; exact hwr') (lv_same hw hL hex a10) hva
  have c1 : mm_c M1 - mm_c M0 = mm_c M - mm_c M0 + (mm_c M1 - mm_c M) := by omega
  have c2 : mm_u M1 - mm_u M0 = mm_u M - mm_u M0 + (mm_u M1 - mm_u M) := by omega
  rw [c1, c2] at z
  obtain ⟨t2, b1, b2⟩ := z T' rfl X'
  refine ⟨t2, st t2 ?_, b2⟩
  have e3 : (ov.toList ++ S).map (cv_v G ad') = (ov.map (cv_v G ad')).toList ++ S.map (cv_v G ad) := by
    rw [List.map_append, cv_S.same hw hex hS]
    cases ov <;> rfl
  rw [e3] at b1
  exact b1
theorem pc_blind {ad : Nat → Nat} {as : List Value} : FrameBlind (pc_P G ad as M) := by
  intro a U g mk h
  exact ⟨h.1, gf_g.moved (State.WarmedH.refl U) h.2.1 (Nat.le_refl _) (fun _ _ _ => rfl), h.2.2⟩
theorem pc_pre {p : Program} {l : Launch} {s U : State} {m : MethodId} {args : Array Value} {meth : Method} {c : Code} {ad : Nat → Nat} {as : List Value} {H : Heap} {locs : List Loc} (hcx : cx_C mi G p l s m args meth c) (hwr : wr_h G ad M H) (hva : va_S (gl_f G) s.heap H locs) (hU : U.heap = H) (hW : s.WarmedH U.vm) : pc_P G ad as M (as.map (cv_v G ad)).toArray U :=
  ⟨rfl, gf_g.moved hW hcx.2.2.2.2.2.2.2.1 (by rw [hU]; exact hva.1) (fun a h1 h2 => by rw [hU]; exact hva.2.1 a h1 h2), by rw [hU]; exact hwr⟩
theorem mi_ws_good (h : mi_cw mi' ∈ tb_G) : GoodIn tb_G (mi_ws mi') := fun w hw => by
  rcases List.mem_cons.mp hw with e | e
  · subst e; exact ⟨h, good_of_word (tb_g h)⟩
  · exact ⟨e, good_of_word (tb_g e)⟩
theorem mi_cw_nil (h : (mi_hh mi').isEmpty = true) : mi_ws mi' = Cond.code (mi_y mi') (mi_cc mi') (mi_nL mi') (mi_ret mi') :: tb_G := by
  unfold mi_ws mi_cw
  rw [if_pos h]
/-- the numbers of a call: frames, words of the stack -/
def cn_N (mi' : mi_T) (fr lo fr' lo' : Nat) (S : List Value) : Bool := Nat.ble (fr' + 1) fr && Nat.ble (8 + (mi_nL mi' + 11) + lo') lo && Nat.ble (S.map fun v => v.category).sum 8
theorem cn_all (h : cn_N mi' fr lo fr' lo' S = true) : fr' + 1 ≤ fr ∧ 8 + (mi_nL mi' + 11) + lo' ≤ lo ∧ (S.map fun v => v.category).sum ≤ 8 := by
  unfold cn_N at h
  simp only [Bool.and_eq_true] at h
  exact ⟨Nat.le_of_ble_eq_true h.1.1, Nat.le_of_ble_eq_true h.1.2, Nat.le_of_ble_eq_true h.2⟩
/-- a virtual call of a method of the own object's class or another's, public or own private -/
def lk_M (own : String) (ix : Nat) (mi' : mi_T) : Prop := Cond.methodLink own ix (mi_y mi') ∈ tb_G ∨ ∃ host, (own, ix, mi_y mi', host) ∈ gn_M
theorem cpV {pc i ix n a c : Nat} {As : List Value} (h : (mi_tb mi)[i]? = some (pc, .invokevirtual ix, 3)) (hlk : lk_M (mi_own mi) ix mi') (hw : mi_w mi' n) (hv : mi_wV mi') (hh : (mi_hh mi').isEmpty = true) (hcls : c < 12 ∧ kn_C c = (mi_y mi').cls) (hn : As.length = n) (hSf : Sf = As.reverse ++ .ref a :: S) (hcn : cn_N mi' fr lo fr' lo' S = true)
    (ha : (mm_k M a).1 = c) (hsp : sp_S mi' fr' lo' G (.ref a :: As) M (.inl ov) M1) : cp_C mi fr lo G pc L S Sf M ov M1 := by
  subst hSf
  obtain ⟨n1, n2, n3⟩ := cn_all hcn
  obtain ⟨h1, h2, h3⟩ := mm_k_in1 ha (by omega)
  have hsplit : ok_S M (As.reverse ++ .ref a :: S) → ok_S M (.ref a :: As) ∧ ok_S M S := fun q => ⟨fun v hv => by
    rcases List.mem_cons.mp hv with e | e
    · exact q v (List.mem_append_right _ (by rw [e]; exact List.mem_cons_self))
    · exact q v (List.mem_append_left _ (List.mem_reverse.mpr e)), fun v hv => q v (List.mem_append_right _ (List.mem_cons_of_mem _ hv))⟩
  refine wp_of_run (a9 := fun ad => (Value.ref (ad a) :: As.map (cv_v G ad)).toArray) (fun q1 q2 => ⟨(hsp q1 (hsplit q2).1).1, (hsplit q2).2⟩) ?_
  intro p l e R s m args below meth c9 H locs cells slots ls ad hcx f1 f2 hwf hS hc hs hsz hwr hva
  obtain ⟨c1, c2, c3, c4, c5, c6, c7, c8, c9', c10, c11, c12⟩ := id hcx
  have hM := (hsp hwf (hsplit hS).1).2 l ad c9'
  have e1 : (As.reverse ++ .ref a :: S).map (cv_v G ad) = (As.map (cv_v G ad)).reverse ++ .ref (ad a) :: S.map (cv_v G ad) := by
    rw [List.map_append, List.map_reverse, List.map_cons, cv_in hwf h1 h2]
  rw [e1]
  have e2 : ((Value.ref a :: As).map (cv_v G ad)).toArray = (Value.ref (ad a) :: As.map (cv_v G ad)).toArray := by rw [List.map_cons, cv_in hwf h1 h2]
  have he := ws_get (G := G) (ad := ad) h1 h2
  rw [en_obj h3 hcls.1] at he
  have hrec := va_recv (cx_K hcx) hwr.1 (cl_at c hcls.1) he
  have hPre : PreV s H (mi_y mi').cls (ad a) (pc_P G ad (.ref a :: As) M) (As.map (cv_v G ad)) := ⟨pc_blind, by rw [← hcls.2]; exact hrec, fun U hU hW => by
    have := pc_pre (as := .ref a :: As) hcx hwr hva hU hW
    rw [e2] at this
    exact this⟩
  have hfix : CallFix p m c9 (mi_cc mi) (mi_nL mi) s args tb_G (mi_own mi) := ⟨c1, c2, c3, c6, c7⟩
  have hlen : (As.map (cv_v G ad)).length = n := by rw [List.length_map]; exact hn
  have hW8 : 2 * (F0 m pc ls ((As.map (cv_v G ad)).reverse ++ .ref (ad a) :: S.map (cv_v G ad))).monitorRoom + ((S.map (cv_v G ad)).map fun v => v.category).sum ≤ 8 := lv_room (by rw [cv_sum]; exact n3)
  rcases hlk with hlk | ⟨host, hlk⟩
  · exact va_runV hfix hM ⟨callB_of n c7 (mi_ws_good hw.1) (mi_cw_nil hh) rfl rfl (c7 _ hw.2.1) (c7 _ hlk) hw.2.2.1 ⟨by show fr' + 1 ≤ R.frames; omega, by show 8 + (mi_nL mi' + 11) + lo' ≤ R.locals; omega⟩, c7 _ hv.1, c7 _ hv.2⟩ hPre rfl hlen (hsz.trans c3) rfl hW8 (mi_at c12 h) ⟨hc, hs⟩
  · exact va_runVN hfix hM ⟨va_cnB n c7 (mi_ws_good hw.1) (mi_cw_nil hh) rfl rfl (c8.1.2.2.1 _ hlk) (c7 _ hw.2.1) hw.2.2.1 ⟨by show fr' + 1 ≤ R.frames; omega, by show 8 + (mi_nL mi' + 11) + lo' ≤ R.locals; omega⟩, c7 _ hv.1, c7 _ hv.2⟩ hPre rfl hlen (hsz.trans c3) rfl hW8 (mi_at c12 h) ⟨hc, hs⟩
theorem cpS {pc i ix n : Nat} {As : List Value} (h : (mi_tb mi)[i]? = some (pc, .invokestatic ix, 3)) (hlk : lk_M (mi_own mi) ix mi') (hw : mi_w mi' n) (hv : Cond.static (mi_y mi') ∈ tb_G) (hh : (mi_hh mi').isEmpty = true) (hn : As.length = n) (hSf : Sf = As.reverse ++ S) (hcn : cn_N mi' fr lo fr' lo' S = true)
    (hsp : sp_S mi' fr' lo' G As M (.inl ov) M1) : cp_C mi fr lo G pc L S Sf M ov M1 := by
  subst hSf
  obtain ⟨n1, n2, n3⟩ := cn_all hcn
  have hsplit : ok_S M (As.reverse ++ S) → ok_S M As ∧ ok_S M S := fun q => ⟨fun v hv => q v (List.mem_append_left _ (List.mem_reverse.mpr hv)), fun v hv => q v (List.mem_append_right _ hv)⟩
  refine wp_of_run (a9 := fun ad => (As.map (cv_v G ad)).toArray) (fun q1 q2 => ⟨(hsp q1 (hsplit q2).1).1, (hsplit q2).2⟩) ?_
  intro p l e R s m args below meth c9 H locs cells slots ls ad hcx f1 f2 hwf hS hc hs hsz hwr hva
  obtain ⟨c1, c2, c3, c4, c5, c6, c7, c8, c9', c10, c11, c12⟩ := id hcx
  have hM := (hsp hwf (hsplit hS).1).2 l ad c9'
  have e1 : (As.reverse ++ S).map (cv_v G ad) = (As.map (cv_v G ad)).reverse ++ S.map (cv_v G ad) := by
    rw [List.map_append, List.map_reverse]
  rw [e1]
  have hPre : PreS s H (pc_P G ad As M) (As.map (cv_v G ad)) := ⟨pc_blind, fun U hU hW => pc_pre (as := As) hcx hwr hva hU hW⟩
  have hfix : CallFix p m c9 (mi_cc mi) (mi_nL mi) s args tb_G (mi_own mi) := ⟨c1, c2, c3, c6, c7⟩
  have hlen : (As.map (cv_v G ad)).length = n := by rw [List.length_map]; exact hn
  have hW8 : 2 * (F0 m pc ls ((As.map (cv_v G ad)).reverse ++ S.map (cv_v G ad))).monitorRoom + ((S.map (cv_v G ad)).map fun v => v.category).sum ≤ 8 := lv_room (by rw [cv_sum]; exact n3)
  rcases hlk with hlk | ⟨host, hlk⟩
  · exact va_runS hfix hM ⟨callB_of n c7 (mi_ws_good hw.1) (mi_cw_nil hh) rfl rfl (c7 _ hw.2.1) (c7 _ hlk) hw.2.2.1 ⟨by show fr' + 1 ≤ R.frames; omega, by show 8 + (mi_nL mi' + 11) + lo' ≤ R.locals; omega⟩, c7 _ hv⟩ hPre rfl hlen (hsz.trans c3) rfl hW8 (mi_at c12 h) ⟨hc, hs⟩
  · exact va_runSN hfix hM ⟨va_cnB n c7 (mi_ws_good hw.1) (mi_cw_nil hh) rfl rfl (c8.1.2.2.1 _ hlk) (c7 _ hw.2.1) hw.2.2.1 ⟨by show fr' + 1 ≤ R.frames; omega, by show 8 + (mi_nL mi' + 11) + lo' ≤ R.locals; omega⟩, c7 _ hv, trivial⟩ hPre rfl hlen (hsz.trans c3) rfl hW8 (mi_at c12 h) ⟨hc, hs⟩
/-- a static call of a method with handlers -/
theorem cpW {pc i ix n : Nat} {As : List Value} (h : (mi_tb mi)[i]? = some (pc, .invokestatic ix, 3)) (hlk : Cond.methodLink (mi_own mi) ix (mi_y mi') ∈ tb_G) (hw : mi_w mi' n) (hv : Cond.static (mi_y mi') ∈ tb_G) (hh : (mi_hh mi').isEmpty = false) (hn : As.length = n) (hSf : Sf = As.reverse ++ S) (hcn : cn_N mi' fr lo fr' lo' S = true)
    (hsp : sp_S mi' fr' lo' G As M (.inl ov) M1) : cp_C mi fr lo G pc L S Sf M ov M1 := by
  subst hSf
  obtain ⟨n1, n2, n3⟩ := cn_all hcn
  have hsplit : ok_S M (As.reverse ++ S) → ok_S M As ∧ ok_S M S := fun q => ⟨fun v hv => q v (List.mem_append_left _ (List.mem_reverse.mpr hv)), fun v hv => q v (List.mem_append_right _ hv)⟩
  refine wp_of_run (a9 := fun ad => (As.map (cv_v G ad)).toArray) (fun q1 q2 => ⟨(hsp q1 (hsplit q2).1).1, (hsplit q2).2⟩) ?_
  intro p l e R s m args below meth c9 H locs cells slots ls ad hcx f1 f2 hwf hS hc hs hsz hwr hva
  obtain ⟨c1, c2, c3, c4, c5, c6, c7, c8, c9', c10, c11, c12⟩ := id hcx
  have hM := (hsp hwf (hsplit hS).1).2 l ad c9'
  have e1 : (As.reverse ++ S).map (cv_v G ad) = (As.map (cv_v G ad)).reverse ++ S.map (cv_v G ad) := by
    rw [List.map_append, List.map_reverse]
  rw [e1]
  have hPre : PreS s H (pc_P G ad As M) (As.map (cv_v G ad)) := ⟨pc_blind, fun U hU hW => pc_pre (as := As) hcx hwr hva hU hW⟩
  have hfix : CallFix p m c9 (mi_cc mi) (mi_nL mi) s args tb_G (mi_own mi) := ⟨c1, c2, c3, c6, c7⟩
  have hlen : (As.map (cv_v G ad)).length = n := by rw [List.length_map]; exact hn
  have hW8 : 2 * (F0 m pc ls ((As.map (cv_v G ad)).reverse ++ S.map (cv_v G ad))).monitorRoom + ((S.map (cv_v G ad)).map fun v => v.category).sum ≤ 8 := lv_room (by rw [cv_sum]; exact n3)
  have hws : mi_ws mi' = Cond.codeWith (mi_y mi') (mi_cc mi') (mi_nL mi') (mi_ret mi') (mi_hh mi') :: tb_G := by
    unfold mi_ws mi_cw
    rw [if_neg (by rw [hh]; decide)]
  have hT : GoodIn tb_G (va_wsS (mi_own mi) ix (mi_y mi') (mi_ws mi')) := by
    intro w hq
    unfold va_wsS at hq
    rcases List.mem_append.mp hq with q | q
    · have : w ∈ tb_G := by
        simp only [List.mem_cons, List.not_mem_nil, or_false] at q
        rcases q with rfl | rfl | rfl
        · exact hlk
        · exact hv
        · exact hw.2.1
      exact ⟨this, good_of_word (tb_g this)⟩
    · exact mi_ws_good hw.1 w q
  exact vx_runSW hfix hM (vx_cwSW n c7 hT hws rfl rfl hw.2.2.1 ⟨by show fr' + 1 ≤ R.frames; omega, by show 8 + (mi_nL mi' + 11) + lo' ≤ R.locals; omega⟩) hPre rfl hlen (hsz.trans c3) rfl hW8 (mi_at c12 h) ⟨hc, hs⟩
/-- a constructor's call -/
theorem cpI {pc i ix n a : Nat} {As : List Value} (h : (mi_tb mi)[i]? = some (pc, .invokespecial ix, 3)) (hlk : lk_M (mi_own mi) ix mi') (hw : mi_w mi' n) (hv : Cond.instanceMethod (mi_y mi') ∈ tb_G) (hh : (mi_hh mi').isEmpty = true) (hnm : (mi_y mi').name = "<init>" ∧ mi_ret mi' = none) (hn : As.length = n) (hSf : Sf = As.reverse ++ .ref a :: S) (hcn : cn_N mi' fr lo fr' lo' S = true)
    (ha : 1 ≤ a ∧ a ≤ mm_n M) (hsp : sp_S mi' fr' lo' G (.ref a :: As) M (.inl ov) M1) : cp_C mi fr lo G pc L S Sf M ov M1 := by
  subst hSf
  obtain ⟨n1, n2, n3⟩ := cn_all hcn
  obtain ⟨h1, h2⟩ := ha
  have hsplit : ok_S M (As.reverse ++ .ref a :: S) → ok_S M (.ref a :: As) ∧ ok_S M S := fun q => ⟨fun v hv => by
    rcases List.mem_cons.mp hv with e | e
    · exact q v (List.mem_append_right _ (by rw [e]; exact List.mem_cons_self))
    · exact q v (List.mem_append_left _ (List.mem_reverse.mpr e)), fun v hv => q v (List.mem_append_right _ (List.mem_cons_of_mem _ hv))⟩
  refine wp_of_run (a9 := fun ad => (Value.ref (ad a) :: As.map (cv_v G ad)).toArray) (fun q1 q2 => ⟨(hsp q1 (hsplit q2).1).1, (hsplit q2).2⟩) ?_
  intro p l e R s m args below meth c9 H locs cells slots ls ad hcx f1 f2 hwf hS hc hs hsz hwr hva
  obtain ⟨c1, c2, c3, c4, c5, c6, c7, c8, c9', c10, c11, c12⟩ := id hcx
  have hM := (hsp hwf (hsplit hS).1).2 l ad c9'
  have e1 : (As.reverse ++ .ref a :: S).map (cv_v G ad) = (As.map (cv_v G ad)).reverse ++ .ref (ad a) :: S.map (cv_v G ad) := by
    rw [List.map_append, List.map_reverse, List.map_cons, cv_in hwf h1 h2]
  rw [e1]
  have e2 : ((Value.ref a :: As).map (cv_v G ad)).toArray = (Value.ref (ad a) :: As.map (cv_v G ad)).toArray := by rw [List.map_cons, cv_in hwf h1 h2]
  have hPre : PreS s H (pc_P G ad (.ref a :: As) M) (.ref (ad a) :: As.map (cv_v G ad)) := ⟨pc_blind, fun U hU hW => by
    have := pc_pre (as := .ref a :: As) hcx hwr hva hU hW
    rw [e2] at this
    exact this⟩
  have hfix : CallFix p m c9 (mi_cc mi) (mi_nL mi) s args tb_G (mi_own mi) := ⟨c1, c2, c3, c6, c7⟩
  have hlen : (As.map (cv_v G ad)).length = n := by rw [List.length_map]; exact hn
  have hW8 : 2 * (F0 m pc ls ((As.map (cv_v G ad)).reverse ++ .ref (ad a) :: S.map (cv_v G ad))).monitorRoom + ((S.map (cv_v G ad)).map fun v => v.category).sum ≤ 8 := lv_room (by rw [cv_sum]; exact n3)
  have hcw : mi_ws mi' = Cond.code (mi_y mi') (mi_cc mi') (mi_nL mi') none :: tb_G := by rw [← hnm.2]; exact mi_cw_nil hh
  rcases hlk with hlk | ⟨host, hlk⟩
  · exact va_runI hfix hM ⟨callB_of n c7 (mi_ws_good hw.1) hcw rfl rfl (c7 _ hw.2.1) (c7 _ hlk) hw.2.2.1 ⟨by show fr' + 1 ≤ R.frames; omega, by show 8 + (mi_nL mi' + 11) + lo' ≤ R.locals; omega⟩, hnm.1, c7 _ hv⟩ hPre rfl hlen (hsz.trans c3) rfl hW8 (mi_at c12 h) ⟨hc, hs⟩
  · exact va_runIN hfix hM ⟨va_cnB n c7 (mi_ws_good hw.1) hcw rfl rfl (c8.1.2.2.1 _ hlk) (c7 _ hw.2.1) hw.2.2.1 ⟨by show fr' + 1 ≤ R.frames; omega, by show 8 + (mi_nL mi' + 11) + lo' ≤ R.locals; omega⟩, hnm.1, c7 _ hv⟩ hPre rfl hlen (hsz.trans c3) rfl hW8 (mi_at c12 h) ⟨hc, hs⟩
/-! the ends -/
theorem va_S.end {ad ad0 : Nat → Nat} {s t : State} {H : Heap} {locs : List Loc} {as : Array Value} {v : Option Value} (hex : ex_a ad0 ad M0) (hwr : wr_h G ad M H) (hva : va_S (gl_f G) s.heap H locs) (ht : t.heap = H) : qc_Q G ad0 M0 v M as s (.returned (v.map (cv_v G ad))) t := ⟨ad, rfl, hex, by rw [ht]; exact hwr, va_S.F hva ht⟩
theorem wp_end {pc : Nat} {v : Option Value} {L : List (Option Value)} {S : List Value} (hv : v.toList = S)
    (h : ∀ (p : Program) (l : Launch) (e : Env) (R : Room) (s : State) (m : MethodId) (args : Array Value) (below : List Frame) (meth : Method) (c : Code) (H : Heap) (locs : List Loc) (cells slots : Nat) (ls : Array Slot) (ad : Nat → Nat) (Qc : Array Value → State → Outcome → State → Prop),
      cx_C mi G p l s m args meth c → (∀ t : State, t.heap = H → s.WarmedH t.vm → Qc args s (.returned (v.map (cv_v G ad))) t) → (∀ q ∈ locs, gl_f G q.base) →
      W p l e R s m args below meth c H locs cells slots (MQ below Qc args s cells slots (gl_f G)) (F0 m pc ls (S.map (cv_v G ad)))) : wp_W mi fr lo G M0 (.inl v) M pc L S M := by
  intro hw hL hS
  refine ⟨⟨Nat.le_refl _, Nat.le_refl _, Nat.le_refl _, hw, fun x hx => ?_⟩, ?_⟩
  · cases hx
    exact hS x (by rw [← hv]; exact List.mem_singleton.mpr rfl)
  intro p l e R s m args below meth c H locs ls ad ad0 hcx a1 a2 a3 a4 a5 a6 a7 a8 a9 a10 a11
  exact h p l e R s m args below meth c H locs _ _ ls ad _ hcx (fun t ht hW => va_S.end a8 a9 a11 ht) a11.2.2
theorem wp_ireturn (i pc : Nat) {v : Int32} (hr : mi_ret mi = some .int) (h : (mi_tb mi)[i]? = some (pc, .ireturn, 1)) : wp_W mi fr lo G M0 (.inl (some (.int v))) M pc L [.int v] M :=
  wp_end rfl fun p l e R s m args below meth c H locs cells slots ls ad Qc hcx hq hf => W.iret hcx.1 hcx.2.1 (hcx.2.2.2.1.trans hr) hq hf (mi_at hcx.2.2.2.2.2.2.2.2.2.2.2 h) hcx.2.2.2.2.1
theorem wp_zreturn (i pc : Nat) {v : Int32} {ty : FieldType} (hr : mi_ret mi = some ty) (hn : narrow ty (.int v) = .int v) (h : (mi_tb mi)[i]? = some (pc, .ireturn, 1)) : wp_W mi fr lo G M0 (.inl (some (.int v))) M pc L [.int v] M :=
  wp_end rfl fun p l e R s m args below meth c H locs cells slots ls ad Qc hcx hq hf => W.zret hcx.1 hcx.2.1 (hcx.2.2.2.1.trans hr) hn hq hf (mi_at hcx.2.2.2.2.2.2.2.2.2.2.2 h) hcx.2.2.2.2.1
theorem wp_lreturn (i pc : Nat) {v : Int64} (hr : mi_ret mi = some .long) (h : (mi_tb mi)[i]? = some (pc, .lreturn, 1)) : wp_W mi fr lo G M0 (.inl (some (.long v))) M pc L [.long v] M :=
  wp_end rfl fun p l e R s m args below meth c H locs cells slots ls ad Qc hcx hq hf => W.lret hcx.1 hcx.2.1 (hcx.2.2.2.1.trans hr) hq hf (mi_at hcx.2.2.2.2.2.2.2.2.2.2.2 h) hcx.2.2.2.2.1
theorem wp_freturn (i pc : Nat) {v : UInt32} (hr : mi_ret mi = some .float) (h : (mi_tb mi)[i]? = some (pc, .freturn, 1)) : wp_W mi fr lo G M0 (.inl (some (.float v))) M pc L [.float v] M :=
  wp_end rfl fun p l e R s m args below meth c H locs cells slots ls ad Qc hcx hq hf => W.fret hcx.1 hcx.2.1 (hcx.2.2.2.1.trans hr) hq hf (mi_at hcx.2.2.2.2.2.2.2.2.2.2.2 h) hcx.2.2.2.2.1
theorem wp_dreturn (i pc : Nat) {v : UInt64} (hr : mi_ret mi = some .double) (h : (mi_tb mi)[i]? = some (pc, .dreturn, 1)) : wp_W mi fr lo G M0 (.inl (some (.double v))) M pc L [.double v] M :=
  wp_end rfl fun p l e R s m args below meth c H locs cells slots ls ad Qc hcx hq hf => W.dret hcx.1 hcx.2.1 (hcx.2.2.2.1.trans hr) hq hf (mi_at hcx.2.2.2.2.2.2.2.2.2.2.2 h) hcx.2.2.2.2.1
theorem wp_return (i pc : Nat) (hr : mi_ret mi = none) (h : (mi_tb mi)[i]? = some (pc, .return_, 1)) : wp_W mi fr lo G M0 (.inl none) M pc L [] M :=
  wp_end rfl fun p l e R s m args below meth c H locs cells slots ls ad Qc hcx hq hf => W.vret hcx.1 hcx.2.1 (hcx.2.2.2.1.trans hr) hq hf (mi_at hcx.2.2.2.2.2.2.2.2.2.2.2 h) hcx.2.2.2.2.1
theorem wp_areturn (i pc : Nat) {v : Nat} {ty : FieldType} (hr : mi_ret mi = some ty) (hty : (∃ n, ty = .object n) ∨ ∃ t, ty = .array t) (h : (mi_tb mi)[i]? = some (pc, .areturn, 1)) : wp_W mi fr lo G M0 (.inl (some (.ref v))) M pc L [.ref v] M :=
  wp_end rfl fun p l e R s m args below meth c H locs cells slots ls ad Qc hcx hq hf => W.aret hcx.1 hcx.2.1 (hcx.2.2.2.1.trans hr) hty (cv_dich G ad v) hq hf (mi_at hcx.2.2.2.2.2.2.2.2.2.2.2 h) hcx.2.2.2.2.1
end CL
