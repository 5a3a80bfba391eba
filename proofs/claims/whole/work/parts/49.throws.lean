/-! ===== throws, handlers; from a walk to a contract ===== -/
section TH
variable {mi mi' : mi_T} {fr lo fr' lo' : Nat} {G : gl_T} {M0 : mm_T} {r : rs_T} {M' : mm_T} {L L' : List (Option Value)} {S S' Sf : List Value} {M M1 : mm_T} {ov : Option Value} {E : String}
/-- a callee throws E: what holds where the exception stands over the caller's frame -/
def tw_T (mi : mi_T) (fr lo : Nat) (G : gl_T) (M0 : mm_T) (r : rs_T) (M' : mm_T) (pc : Nat) (L : List (Option Value)) (S : List Value) (M1 : mm_T) (E : String) : Prop :=
  mm_wf M1 → ok_L M1 L → mo_M M1 M' r ∧
  ∀ (p : Program) (l : Launch) (e : Env) (R : Room) (s : State) (m : MethodId) (args : Array Value) (below : List Frame) (meth : Method) (c : Code) (H : Heap) (locs : List Loc) (ls : Array Slot) (ad ad0 : Nat → Nat) (q : Addr) (ce : Cell) (rest : List Value),
    cx_C mi G p l s m args meth c → fr ≤ R.frames → lo ≤ R.locals → mm_c M' - mm_c M0 ≤ R.cells → mm_u M' - mm_u M0 ≤ R.slots → mm_n M0 ≤ mm_n M1 → mm_c M0 ≤ mm_c M1 → mm_u M0 ≤ mm_u M1 →
    ex_a ad0 ad M0 → wr_h G ad M1 H → lv_has ls (mi_nL mi) (lv_l G ad 0 L) → va_S (gl_f G) s.heap H locs → H[q]? = some ce → ce.vm = .none → s.vm.findClass E = some ce.cls →
    vx_W p l e R s m args below meth c H locs (mm_c M1 - mm_c M0) (mm_u M1 - mm_u M0) (qq_Q below G ad0 M0 r M' args s (mm_c M' - mm_c M0) (mm_u M' - mm_u M0)) (F0 m pc ls rest) q
theorem wp_of_runx {pc : Nat} (hmo : mm_wf M → ok_S M Sf → mo_M M M1 (.inr E))
    (hrun : ∀ (p : Program) (l : Launch) (e : Env) (R : Room) (s : State) (m : MethodId) (args : Array Value) (below : List Frame) (meth : Method) (c : Code) (H : Heap) (locs : List Loc) (cells slots : Nat) (ls : Array Slot) (ad : Nat → Nat),
      cx_C mi G p l s m args meth c → fr ≤ R.frames → lo ≤ R.locals → mm_wf M → ok_S M Sf → cells + (mm_c M1 - mm_c M) ≤ R.cells → slots + (mm_u M1 - mm_u M) ≤ R.slots → ls.size = c.maxLocals → wr_h G ad M H → va_S (gl_f G) s.heap H locs →
      vx_Run p l e R s m args below meth c H locs cells slots (mm_c M1 - mm_c M) (mm_u M1 - mm_u M) (F0 m pc ls (Sf.map (cv_v G ad))) (S.map (cv_v G ad)) (fun _ _ _ => False) (xc_X G ad M E M1) (gl_f G))
    (k : tw_T mi fr lo G M0 r M' pc L S M1 E) : wp_W mi fr lo G M0 r M' pc L Sf M := by
  intro hw hL hSf
  have mo := hmo hw hSf
  obtain ⟨k1, k2⟩ := k mo.2.2.2.1 (hL.mono mo.1)
  have m1 := mo.2.1
  have m2 := mo.2.2.1
  have n1 := k1.2.1
  have n2 := k1.2.2.1
  refine ⟨k1.trans ⟨mo.1, m1, m2⟩, ?_⟩
  intro p l e R s m args below meth c H locs ls ad ad0 hcx a1 a2 a3 a4 a5 a6 a7 a8 a9' a10 a11
  intro T hT X
  rcases hrun p l e R s m args below meth c H locs _ _ ls ad hcx a1 a2 hw hSf (by omega) (by omega) (a10.1.trans hcx.2.2.1.symm) a9' a11 T hT X with ⟨v, st₀, t, T', Lx, h0, X', hLx, e1, e2, hf, st⟩ | ⟨q, st₀, t, T', Lx, E', ce, h0, X', hLx, e1, e2, ⟨hE, ad', hex, hwr', hF⟩, g1, g2, g3, st⟩
  · exact hf.elim
  subst hE
  have hva : va_S (gl_f G) s.heap T'.heap (locs ++ Lx) := by
    rw [e1]
    refine ⟨Nat.le_trans a11.1 (by rw [← h0]; exact hF.1), fun q h1 h2 => ?_, fun q hq => ?_⟩
    · rw [hF.2 q (by rw [h0]; exact Nat.lt_of_lt_of_le h1 a11.1) h2, h0]
      exact a11.2.1 q h1 h2
    · rcases List.mem_append.mp hq with h | h
      · exact a11.2.2 q h
      · exact hLx q h
  have z := k2 p l e R s m args below meth c T'.heap (locs ++ Lx) ls ad' ad0 q ce (S.map (cv_v G ad)) hcx a1 a2 a3 a4 (Nat.le_trans a5 mo.1) (Nat.le_trans a6 m1) (Nat.le_trans a7 m2) (fun i hi => (hex i (Nat.le_trans hi a5)).trans (a8 i hi)) (by rw [e1]; exact hwr') (lv_same hw hL hex a10) hva (by rw [e1]; exact g1) g2 g3
  have c1 : mm_c M1 - mm_c M0 = mm_c M - mm_c M0 + (mm_c M1 - mm_c M) := by omega
  have c2 : mm_u M1 - mm_u M0 = mm_u M - mm_u M0 + (mm_u M1 - mm_u M) := by omega
  rw [c1, c2] at z
  obtain ⟨t2, b1, b2⟩ := z T' rfl X'
  exact ⟨t2, st.trans b1, b2⟩
theorem xpV {pc i ix n a c : Nat} {As : List Value} (h : (mi_tb mi)[i]? = some (pc, .invokevirtual ix, 3)) (hlk : Cond.methodLink (mi_own mi) ix (mi_y mi') ∈ tb_G) (hw : mi_w mi' n) (hv : mi_wV mi') (hh : (mi_hh mi').isEmpty = true) (hcls : c < 12 ∧ kn_C c = (mi_y mi').cls) (hn : As.length = n) (hSf : Sf = As.reverse ++ .ref a :: S) (hcn : cn_N mi' fr lo fr' lo' S = true)
    (ha : (mm_k M a).1 = c) (hsp : sp_S mi' fr' lo' G (.ref a :: As) M (.inr E) M1) (k : tw_T mi fr lo G M0 r M' pc L S M1 E) : wp_W mi fr lo G M0 r M' pc L Sf M := by
  subst hSf
  obtain ⟨n1, n2, n3⟩ := cn_all hcn
  obtain ⟨h1, h2, h3⟩ := mm_k_in1 ha (by omega)
  have hsplit : ok_S M (As.reverse ++ .ref a :: S) → ok_S M (.ref a :: As) := fun q => fun v hv => by
    rcases List.mem_cons.mp hv with e | e
    · exact q v (List.mem_append_right _ (by rw [e]; exact List.mem_cons_self))
    · exact q v (List.mem_append_left _ (List.mem_reverse.mpr e))
  refine wp_of_runx (fun q1 q2 => (hsp q1 (hsplit q2)).1) ?_ k
  intro p l e R s m args below meth c9 H locs cells slots ls ad hcx f1 f2 hwf hS hc hs hsz hwr hva
  obtain ⟨c1, c2, c3, c4, c5, c6, c7, c8, c9', c10, c11, c12⟩ := id hcx
  have hM := (hsp hwf (hsplit hS)).2 l ad c9'
  have e1 : (As.reverse ++ .ref a :: S).map (cv_v G ad) = (As.map (cv_v G ad)).reverse ++ .ref (ad a) :: S.map (cv_v G ad) := by
    rw [List.map_append, List.map_reverse, List.map_cons, cv_in hwf h1 h2]
  rw [e1]
  have e2 : ((Value.ref a :: As).map (cv_v G ad)).toArray = (Value.ref (ad a) :: As.map (cv_v G ad)).toArray := by rw [List.map_cons, cv_in hwf h1 h2]
  have he := ws_get (G := G) (ad := ad) h1 h2
  rw [en_obj h3 hcls.1] at he
  have hrec := va_recv (cx_K hcx) hwr.1 (cl_at c hcls.1) he
  have hPre : PreV s H (mi_y mi').cls (ad a) (pc_P G ad (.ref a :: As) M) (As.map (cv_v G ad)) := ⟨pc_blind, by rw [← hcls.2]; exact hrec, fun U hU hW => by
    have := pc_pre (as := .ref a :: As) hcx hwr hva hU hW
    rw [e2] at this
    exact this⟩
  exact vx_runV ⟨c1, c2, c3, c6, c7⟩ hM ⟨callB_of n c7 (mi_ws_good hw.1) (mi_cw_nil hh) rfl rfl (c7 _ hw.2.1) (c7 _ hlk) hw.2.2.1 ⟨by show fr' + 1 ≤ R.frames; omega, by show 8 + (mi_nL mi' + 11) + lo' ≤ R.locals; omega⟩, c7 _ hv.1, c7 _ hv.2⟩ hPre rfl (by rw [List.length_map]; exact hn) (hsz.trans c3) rfl (lv_room (by rw [cv_sum]; exact n3)) (mi_at c12 h) ⟨hc, hs⟩
theorem xpS {pc i ix n : Nat} {As : List Value} (h : (mi_tb mi)[i]? = some (pc, .invokestatic ix, 3)) (hlk : Cond.methodLink (mi_own mi) ix (mi_y mi') ∈ tb_G) (hw : mi_w mi' n) (hv : Cond.static (mi_y mi') ∈ tb_G) (hh : (mi_hh mi').isEmpty = true) (hn : As.length = n) (hSf : Sf = As.reverse ++ S) (hcn : cn_N mi' fr lo fr' lo' S = true)
    (hsp : sp_S mi' fr' lo' G As M (.inr E) M1) (k : tw_T mi fr lo G M0 r M' pc L S M1 E) : wp_W mi fr lo G M0 r M' pc L Sf M := by
  subst hSf
  obtain ⟨n1, n2, n3⟩ := cn_all hcn
  have hsplit : ok_S M (As.reverse ++ S) → ok_S M As := fun q => fun v hv => q v (List.mem_append_left _ (List.mem_reverse.mpr hv))
  refine wp_of_runx (fun q1 q2 => (hsp q1 (hsplit q2)).1) ?_ k
  intro p l e R s m args below meth c9 H locs cells slots ls ad hcx f1 f2 hwf hS hc hs hsz hwr hva
  obtain ⟨c1, c2, c3, c4, c5, c6, c7, c8, c9', c10, c11, c12⟩ := id hcx
  have hM := (hsp hwf (hsplit hS)).2 l ad c9'
  have e1 : (As.reverse ++ S).map (cv_v G ad) = (As.map (cv_v G ad)).reverse ++ S.map (cv_v G ad) := by
    rw [List.map_append, List.map_reverse]
  rw [e1]
  exact vx_runS ⟨c1, c2, c3, c6, c7⟩ hM ⟨callB_of n c7 (mi_ws_good hw.1) (mi_cw_nil hh) rfl rfl (c7 _ hw.2.1) (c7 _ hlk) hw.2.2.1 ⟨by show fr' + 1 ≤ R.frames; omega, by show 8 + (mi_nL mi' + 11) + lo' ≤ R.locals; omega⟩, c7 _ hv⟩ ⟨pc_blind, fun U hU hW => pc_pre (as := As) hcx hwr hva hU hW⟩ rfl (by rw [List.length_map]; exact hn) (hsz.trans c3) rfl (lv_room (by rw [cv_sum]; exact n3)) (mi_at c12 h) ⟨hc, hs⟩
/-- not caught here -/
theorem tw_out {pc : Nat} (hh : mi_hh mi = []) : tw_T mi fr lo G M0 (.inr E) M1 pc L S M1 E := by
  intro hw hL
  refine ⟨⟨Nat.le_refl _, Nat.le_refl _, Nat.le_refl _, hw, fun v h => nomatch h⟩, ?_⟩
  intro p l e R s m args below meth c H locs ls ad ad0 q ce rest hcx a1 a2 a3 a4 a5 a6 a7 a8 a9 a10 a11 g1 g2 g3
  exact vx_out (fun x hx => by rw [hcx.2.2.2.2.2.2.2.2.2.1, hh] at hx; exact nomatch hx) hcx.2.2.2.2.1 g1 g2 g3 (fun t ht hvm => ⟨rfl, ad, a8, by rw [ht]; exact a9, va_S.F a11 ht⟩) a11.2.2 (Nat.le_refl _) (Nat.le_refl _)
def st_n (L : List (Option Value)) (i : Nat) : List (Option Value) := (st_c L i).set i none
theorem st_n_lv {ad : Nat → Nat} {i : Nat} {v : Value} : ∀ q ∈ lv_l G ad 0 (st_n L i), q ∈ (i, v) :: (lv_l G ad 0 L).filter (fun q => !(q.1 == i) && !(q.1 + 1 == i && q.2.category == 2)) := by
  intro q hq
  obtain ⟨j, w, h, e⟩ := (lv_l_iff _ _ _).mp hq
  unfold st_n at h
  rw [List.getElem?_set] at h
  by_cases c : i = j
  · rw [if_pos c] at h
    split at h <;> cases h
  · rw [if_neg c] at h
    have h9 : (st_1 L i (.int 0))[j]? = some (some w) := by
      unfold st_1
      rw [List.getElem?_set, if_neg c]
      exact h
    have := st_1_lv (G := G) (ad := ad) q ((lv_l_iff _ _ _).mpr ⟨j, w, h9, e⟩)
    rcases List.mem_cons.mp this with e2 | e2
    · rw [e] at e2
      have e3 : 0 + j = i := congrArg Prod.fst e2
      exact absurd (by omega : i = j) c
    · exact List.mem_cons_of_mem _ e2
theorem st_n_ok {i : Nat} (h : ok_L M L) : ok_L M (st_n L i) := by
  intro w hw
  obtain ⟨j, hj⟩ := List.getElem?_of_mem hw
  unfold st_n at hj
  rw [List.getElem?_set] at hj
  by_cases c : i = j
  · rw [if_pos c] at hj
    split at hj <;> cases hj
  · rw [if_neg c] at hj
    exact h w (List.mem_of_getElem? (st_c_get hj).1)
/-- caught by the row n of the table; the handler first puts the exception into variable j -/
theorem tw_catch {pc n j i len : Nat} {x : ExceptionTableEntry} {ins : Instr} (hx : (tableOf (mi_hh mi))[n]? = some x) (hpre : ∀ z ∈ (tableOf (mi_hh mi)).take n, z.catchType ≠ 0 ∧ ∃ nm : String, Cond.classLink (mi_own mi) z.catchType nm ∈ tb_G ∧ (E, nm) ∈ gn_X) (hcov : covers x pc = true) (h0 : x.catchType ≠ 0) (hlk : Cond.classLink (mi_own mi) x.catchType E ∈ tb_G) (hca : (E, E) ∈ gn_C)
    (hd : (mi_tb mi)[i]? = some (x.handlerPc, ins, len)) (hins : ((∃ j4 : Fin 4, (j4 : Nat) = j ∧ ins = .astore_n j4) ∧ len = 1) ∨ (ins = .astore j ∧ len = 2)) (hj : Nat.ble (j + 1) (mi_nL mi) = true) (k : wp_W mi fr lo G M0 r M' (x.handlerPc + len) (st_n L j) [] M1) : tw_T mi fr lo G M0 r M' pc L S M1 E := by
  intro hw hL
  obtain ⟨k1, k2⟩ := k hw (st_n_ok hL) (fun v hv => nomatch hv)
  refine ⟨k1, ?_⟩
  intro p l e R s m args below meth c H locs ls ad ad0 q ce rest hcx a1 a2 a3 a4 a5 a6 a7 a8 a9 a10 a11 g1 g2 g3
  obtain ⟨c1, c2, c3, c4, c5, c6, c7, c8, c9', c10, c11, c12⟩ := id hcx
  have hsplit : c.exceptionTable.toList = (tableOf (mi_hh mi)).take n ++ x :: (tableOf (mi_hh mi)).drop (n + 1) := by
    rw [c10]
    obtain ⟨hlt, hget⟩ := List.getElem?_eq_some_iff.mp hx
    rw [← hget, ← List.drop_eq_getElem_cons hlt, List.take_append_drop]
  refine vx_catch c6 _ x _ hsplit (fun z hz => ?_) hcov h0 (c7 _ hlk) (va_Nw.use rfl (c8.1.2.2.2.1 _ hca)) g1 g2 g3 ?_
  · obtain ⟨z0, nm, z1, z2⟩ := hpre z hz
    exact Or.inr ⟨z0, nm, c7 _ z1, c8.1.2.2.2.2.1 _ z2⟩
  · have kk : ∀ ls2 : Array Slot, lv_has ls2 (mi_nL mi) ((j, Value.ref q) :: (lv_l G ad 0 L).filter (fun q => !(q.1 == j) && !(q.1 + 1 == j && q.2.category == 2))) → W p l e R s m args below meth c H locs (mm_c M1 - mm_c M0) (mm_u M1 - mm_u M0) (qq_Q below G ad0 M0 r M' args s (mm_c M' - mm_c M0) (mm_u M' - mm_u M0)) (F0 m (x.handlerPc + len) ls2 []) := fun ls2 hl2 =>
      k2 p l e R s m args below meth c H locs ls2 ad ad0 hcx a1 a2 a3 a4 a5 a6 a7 a8 a9 (hl2.less st_n_lv) a11
    rcases hins with ⟨⟨j4, hj4, rfl⟩, rfl⟩ | ⟨rfl, rfl⟩
    · exact lv_astore_n c1 c2 (mi_at c12 hd) hj4 a10 (Nat.le_of_ble_eq_true hj) rfl kk
    · exact lv_astore c1 c2 (mi_at c12 hd) a10 (Nat.le_of_ble_eq_true hj) rfl kk
/-- throw new E(text) -/
def th_W (own E : String) (ik is ic : Nat) (tx : String) (sid : Nat) (names : List String) : Prop :=
  (Bundle.fit E = true ∧ ∀ n ∈ names, Bundle.fit n = true) ∧ (Cond.classLink own ik E ∈ tb_G ∧ Cond.initialized E ∈ tb_G) ∧ (own, is, tx, sid) ∈ gs_ref ∧ (E, E) ∈ gn_C ∧ ((∀ w ∈ (vx_atS own ic E names).filter goodWord, w ∈ tb_G) ∧ (∀ w ∈ (vx_atS own ic E names).filter (fun w => !goodWord w), w ∈ Cond.castable E E :: gn_D.map Cond.declares)) ∧
  ∀ w ∈ Cond.classLink own ik E :: Cond.initialized E :: vx_atS own ic E names, vx_ot w = true
theorem wp_throw {pc i ik is ic sid : Nat} {tx : String} {names : List String} (hth : th_W (mi_own mi) E ik is ic tx sid names) (hnm : names.length = 2) (hh : mi_hh mi = []) (hfr : Nat.ble 6 fr = true) (hlo : Nat.ble 90 lo = true) (hS : Nat.ble (S.map fun v => v.category).sum 8 = true)
    (d0 : (mi_tb mi)[i]? = some (pc, .new ik, 3)) (d3 : (mi_tb mi)[i + 1]? = some (pc + 3, .dup, 1)) (d4 : (mi_tb mi)[i + 2]? = some (pc + 4, .ldc is, 2)) (d6 : (mi_tb mi)[i + 3]? = some (pc + 6, .invokespecial ic, 3)) (d9 : (mi_tb mi)[i + 4]? = some (pc + 9, .athrow, 1)) : wp_W mi fr lo G M0 (.inr E) (mm_ex M) pc L S M := by
  intro hw hL hSk
  refine ⟨⟨Nat.le_refl _, Nat.le_succ _, Nat.le_add_right _ _, hw, fun v h => nomatch h⟩, ?_⟩
  intro p l e R s m args below meth c H locs ls ad ad0 hcx a1 a2 a3 a4 a5 a6 a7 a8 a9 a10 a11
  obtain ⟨c1, c2, c3, c4, c5, c6, c7, c8, c9', c10, c11, c12⟩ := id hcx
  obtain ⟨⟨f1, f2⟩, ⟨f3, f4⟩, f5, f6, ⟨f7, f8⟩, f9⟩ := hth
  have hfr := Nat.le_of_ble_eq_true hfr
  have hlo := Nat.le_of_ble_eq_true hlo
  have hS := Nat.le_of_ble_eq_true hS
  have b3 : mm_c M + 1 - mm_c M0 ≤ R.cells := a3
  have b4 : mm_u M + 6 - mm_u M0 ≤ R.slots := a4
  have hat : ∀ w ∈ vx_atS (mi_own mi) ic E names, w.before args s = true := vx_hat (fun w hq => c7 _ (f7 w hq)) f8 (vx_c (va_Nw.use rfl (c8.1.2.2.2.1 _ f6)) (fun w hq => by
    obtain ⟨x, hx, rfl⟩ := List.mem_map.mp hq
    exact va_Nw.use rfl (c8.1.2.2.2.2.2.2.2.1 x hx)))
  refine vx_throwS (names := names) c1 c2 c9' c6 f1 f2 (c7 _ f3) (c7 _ f4) (c8.1.2.2.2.2.2.1 _ f5) hat f9 c8.2.1.2.1 c8.2.1.2.2.1 a11 (a10.1.trans c3.symm) (mi_at c12 d0) (mi_at c12 d3) (mi_at c12 d4) (mi_at c12 d6) (mi_at c12 d9)
    (fun x hx => by rw [c10, hh] at hx; exact nomatch hx) (by rw [hnm]; omega) (by rw [hnm, cv_sum]; omega) (by omega) (by omega) c5 (fun t hvm h1 h2 => ?_) a11.2.2 (by show _ ≤ mm_c M + 1 - mm_c M0; omega) (by show _ ≤ mm_u M + 6 - mm_u M0; omega)
  refine ⟨rfl, ad, a8, ?_, ?_⟩
  · refine ⟨fun k0 q hq => ?_, a9.2⟩
    have z := a9.1 k0 q hq
    exact va_at.kept z (h2 _ (va_at.lt z))
  · exact ⟨Nat.le_trans a11.1 h1, fun q g1 g2 => by rw [h2 q (Nat.lt_of_lt_of_le g1 a11.1)]; exact a11.2.1 q g1 g2⟩
theorem wp_throwW {pc i ik is ic sid : Nat} {tx : String} {names : List String} (hth : th_W (mi_own mi) E ik is ic tx sid names) (hnm : names.length = 2) (hh : mi_hh mi = []) (hfr : Nat.ble 6 fr = true) (hlo : Nat.ble 90 lo = true) (hS : Nat.ble (S.map fun v => v.category).sum 8 = true)
    (d0 : (mi_tb mi)[i]? = some (pc, .new ik, 3)) (d3 : (mi_tb mi)[i + 1]? = some (pc + 3, .dup, 1)) (d4 : (mi_tb mi)[i + 2]? = some (pc + 4, .ldc_w is, 3)) (d6 : (mi_tb mi)[i + 3]? = some (pc + 7, .invokespecial ic, 3)) (d9 : (mi_tb mi)[i + 4]? = some (pc + 10, .athrow, 1)) : wp_W mi fr lo G M0 (.inr E) (mm_ex M) pc L S M := by
  intro hw hL hSk
  refine ⟨⟨Nat.le_refl _, Nat.le_succ _, Nat.le_add_right _ _, hw, fun v h => nomatch h⟩, ?_⟩
  intro p l e R s m args below meth c H locs ls ad ad0 hcx a1 a2 a3 a4 a5 a6 a7 a8 a9 a10 a11
  obtain ⟨c1, c2, c3, c4, c5, c6, c7, c8, c9', c10, c11, c12⟩ := id hcx
  obtain ⟨⟨f1, f2⟩, ⟨f3, f4⟩, f5, f6, ⟨f7, f8⟩, f9⟩ := hth
  have hfr := Nat.le_of_ble_eq_true hfr
  have hlo := Nat.le_of_ble_eq_true hlo
  have hS := Nat.le_of_ble_eq_true hS
  have b3 : mm_c M + 1 - mm_c M0 ≤ R.cells := a3
  have b4 : mm_u M + 6 - mm_u M0 ≤ R.slots := a4
  have hat : ∀ w ∈ vx_atS (mi_own mi) ic E names, w.before args s = true := vx_hat (fun w hq => c7 _ (f7 w hq)) f8 (vx_c (va_Nw.use rfl (c8.1.2.2.2.1 _ f6)) (fun w hq => by
    obtain ⟨x, hx, rfl⟩ := List.mem_map.mp hq
    exact va_Nw.use rfl (c8.1.2.2.2.2.2.2.2.1 x hx)))
  refine vx_throwSW (names := names) c1 c2 c9' c6 f1 f2 (c7 _ f3) (c7 _ f4) (c8.1.2.2.2.2.2.1 _ f5) hat f9 c8.2.1.2.1 c8.2.1.2.2.1 a11 (a10.1.trans c3.symm) (mi_at c12 d0) (mi_at c12 d3) (mi_at c12 d4) (mi_at c12 d6) (mi_at c12 d9)
    (fun x hx => by rw [c10, hh] at hx; exact nomatch hx) (by rw [hnm]; omega) (by rw [hnm, cv_sum]; omega) (by omega) (by omega) c5 (fun t hvm h1 h2 => ?_) a11.2.2 (by show _ ≤ mm_c M + 1 - mm_c M0; omega) (by show _ ≤ mm_u M + 6 - mm_u M0; omega)
  refine ⟨rfl, ad, a8, ?_, ?_⟩
  · refine ⟨fun k0 q hq => ?_, a9.2⟩
    have z := a9.1 k0 q hq
    exact va_at.kept z (h2 _ (va_at.lt z))
  · exact ⟨Nat.le_trans a11.1 h1, fun q g1 g2 => by rw [h2 q (Nat.lt_of_lt_of_le g1 a11.1)]; exact a11.2.1 q g1 g2⟩
/-! from a walk of the body to the contract -/
def ag_1 : List Value → List (Option Value)
  | [] => []
  | v :: t => if ct_2 v then some v :: none :: ag_1 t else some v :: ag_1 t
def ag_L (as : List Value) (n : Nat) : List (Option Value) := ag_1 as ++ List.replicate (n - (ag_1 as).length) none
theorem ct_2_iff (v : Value) : ct_2 v = true ↔ v.category = 2 := by cases v <;> simp [ct_2, Value.category]
theorem ag_1_lv {ad : Nat → Nat} : ∀ (as : List Value) (i : Nat), lv_l G ad i (ag_1 as) = lv_args i (as.map (cv_v G ad)) := by
  intro as
  induction as with
  | nil => intro i; rfl
  | cons v t ih =>
    intro i
    show lv_l G ad i (if ct_2 v then some v :: none :: ag_1 t else some v :: ag_1 t) = (i, cv_v G ad v) :: lv_args (if (cv_v G ad v).category = 2 then i + 2 else i + 1) (t.map (cv_v G ad))
    rw [cv_cat]
    by_cases h : ct_2 v = true
    · rw [if_pos h, if_pos ((ct_2_iff v).mp h), ← ih]
      rfl
    · rw [if_neg h, if_neg (fun q => h ((ct_2_iff v).mpr q)), ← ih]
      rfl
theorem ag_L_lv {ad : Nat → Nat} {as : List Value} {n : Nat} : ∀ q ∈ lv_l G ad 0 (ag_L as n), q ∈ lv_args 0 (as.map (cv_v G ad)) := by
  intro q hq
  rw [← ag_1_lv]
  obtain ⟨j, v, h, e⟩ := (lv_l_iff _ _ _).mp hq
  unfold ag_L at h
  by_cases hj : j < (ag_1 as).length
  · rw [List.getElem?_append_left hj] at h
    exact (lv_l_iff _ _ _).mpr ⟨j, v, h, e⟩
  · rw [List.getElem?_append_right (by omega), List.getElem?_replicate] at h
    split at h <;> cases h
theorem ag_1_mem : ∀ (as : List Value) (v : Value), some v ∈ ag_1 as → v ∈ as := by
  intro as
  induction as with
  | nil => intro v h; exact nomatch h
  | cons w t ih =>
    intro v h
    unfold ag_1 at h
    split at h
    · rcases List.mem_cons.mp h with e | e
      · cases e; exact List.mem_cons_self
      · rcases List.mem_cons.mp e with e | e
        · cases e
        · exact List.mem_cons_of_mem _ (ih v e)
    · rcases List.mem_cons.mp h with e | e
      · cases e; exact List.mem_cons_self
      · exact List.mem_cons_of_mem _ (ih v e)
theorem ag_L_ok {as : List Value} {n : Nat} (h : ok_S M as) : ok_L M (ag_L as n) := by
  intro v hv
  rcases List.mem_append.mp hv with e | e
  · exact h v (ag_1_mem as v e)
  · exact absurd (List.eq_of_mem_replicate e) (fun q => nomatch q)
theorem ag_1_len {ad : Nat → Nat} : ∀ as : List Value, (lg_sl (as.map (cv_v G ad))).length = (ag_1 as).length := by
  intro as
  induction as with
  | nil => rfl
  | cons v t ih =>
    have e : lg_sl ((v :: t).map (cv_v G ad)) = (if (cv_v G ad v).category = 2 then [.val (cv_v G ad v), .second] else [.val (cv_v G ad v)]) ++ lg_sl (t.map (cv_v G ad)) := rfl
    have e2 : ag_1 (v :: t) = if ct_2 v then some v :: none :: ag_1 t else some v :: ag_1 t := rfl
    rw [e, cv_cat, List.length_append, ih, e2]
    by_cases h : ct_2 v = true
    · rw [if_pos h, if_pos ((ct_2_iff v).mp h)]
      show 2 + (ag_1 t).length = (ag_1 t).length + 1 + 1
      omega
    · rw [if_neg h, if_neg (fun q => h ((ct_2_iff v).mpr q))]
      show 1 + (ag_1 t).length = (ag_1 t).length + 1
      omega
theorem sp_of {n : Nat} {as : List Value} {r : rs_T} {M' : mm_T} (hmo : mi_ok mi) (hw : mi_w mi n) (hpl : plainName (mi_y mi).cls = true ∨ ((mi_hh mi).isEmpty = true ∧ ∃ ov, r = .inl ov)) (hown : mi_own mi = (mi_y mi).cls) (hlen : Nat.ble (ag_1 as).length (mi_nL mi) = true) (hx : (mi_hh mi).isEmpty = true ∨ ∃ ov, r = .inl ov) (h : wp_W mi fr lo G M r M' 0 (ag_L as (mi_nL mi)) [] M) : sp_S mi fr lo G as M r M' := by
  intro hwf hok
  obtain ⟨k1, k2⟩ := h hwf (ag_L_ok hok) (fun v hv => nomatch hv)
  refine ⟨k1, ?_⟩
  intro l ad hl
  have hlen := Nat.le_of_ble_eq_true hlen
  have core : ∀ (p : Program) (e : Env) (s : State) (m : MethodId) (args : Array Value) (below : List Frame) (meth : Method) (c : Code) (s₁ : State),
      BodyLoose p l (mi_y mi) (headSpec (mi_ws mi) ({ frames := fr, cells := mm_c M' - mm_c M, slots := mm_u M' - mm_u M, locals := lo })) (mi_cc mi) (mi_nL mi) (mi_ret mi) e s m args below meth c s₁ → c.maxLocals = mi_nL mi → c.exceptionTable.toList = tableOf (mi_hh mi) → pc_P G ad as M args s →
      W p l e ({ frames := fr, cells := mm_c M' - mm_c M, slots := mm_u M' - mm_u M, locals := lo }) s m args below meth c s.heap [] 0 0 (qq_Q below G ad M r M' args s (mm_c M' - mm_c M) (mm_u M' - mm_u M)) (entryFrame m args (mi_nL mi)) := by
    intro p e s m args below meth c s₁ B hml htab hP
    obtain ⟨rfl, hg, hwr⟩ := hP
    have hts := atoms_spec (ws := mi_ws mi) B.pre
    have hcx : cx_C mi G p l s m (as.map (cv_v G ad)).toArray meth c := ⟨B.exec, B.bytes, hml, B.returns, B.notSynchronized, by rw [hown]; exact findClass_of_methodNamed B.named, fun w hq => hts w (List.mem_cons_of_mem _ hq), hg, hl, htab, (name_of_methodNamed B.named B.method).1, hmo⟩
    have hle : (lg_sl (as.map (cv_v G ad))).length ≤ mi_nL mi := by rw [ag_1_len]; exact hlen
    have z := k2 p l e ({ frames := fr, cells := mm_c M' - mm_c M, slots := mm_u M' - mm_u M, locals := lo }) s m (as.map (cv_v G ad)).toArray below meth c s.heap [] _ ad ad hcx (Nat.le_refl _) (Nat.le_refl _) (Nat.le_refl _) (Nat.le_refl _) (Nat.le_refl _) (Nat.le_refl _) (Nat.le_refl _) (fun _ _ => rfl) hwr ((lv_entry (as.map (cv_v G ad)) hle).less ag_L_lv) va_S.rf
    rw [Nat.sub_self, Nat.sub_self] at z
    rw [lg_entry_eq]
    exact z
  have tab0 : (mi_hh mi).isEmpty = true → ∀ (s : State) (m : MethodId) (meth : Method) (c : Code), s.methodNamed? (mi_y mi) = some m → s.vm.method? m = some meth → meth.code = some c → ∀ args, (Cond.code (mi_y mi) (mi_cc mi) (mi_nL mi) (mi_ret mi)).before args s = true → c.exceptionTable.toList = tableOf (mi_hh mi) := by
    intro hh s m meth c hn hm hc args hb
    obtain ⟨meth9, c9, h1, h2, -, -, -, -, h7, -⟩ := Cond.code_spec hn hb
    cases Option.some.inj (h1.symm.trans hm)
    cases Option.some.inj (h2.symm.trans hc)
    rw [Array.isEmpty_iff.mp h7, List.isEmpty_iff.mp hh]
    rfl
  cases r with
  | inl ov =>
    by_cases hh : (mi_hh mi).isEmpty = true
    · exact va_MetF hw.2.2.2 (mi_cw_nil hh) fun p e s m args below meth c s₁ B hml hP => core p e s m args below meth c s₁ B hml (tab0 hh s m meth c B.named B.method (Stand.of_body B).code args (by
        have := atoms_spec (ws := mi_ws mi) B.pre (mi_cw mi) List.mem_cons_self
        unfold mi_cw at this
        rw [if_pos hh] at this
        exact this)) hP
    · have hws : mi_ws mi = Cond.codeWith (mi_y mi) (mi_cc mi) (mi_nL mi) (mi_ret mi) (mi_hh mi) :: tb_G := by
        unfold mi_ws mi_cw
        rw [if_neg hh]
      exact va_MetW (hpl.resolve_right (fun q => hh q.1)) hws fun p e s m args below meth c s₁ B hml hP => core p e s m args below meth c s₁ B hml (vx_table (x := mi_y mi) B (by
        have := atoms_spec (ws := mi_ws mi) B.pre (mi_cw mi) List.mem_cons_self
        unfold mi_cw at this
        rw [if_neg hh] at this
        exact this)) hP
  | inr E =>
    have hh : (mi_hh mi).isEmpty = true := by
      rcases hx with hx | ⟨ov, hx⟩
      · exact hx
      · cases hx
    exact vx_ofW (hpl.resolve_right (fun q => by obtain ⟨-, ov, q⟩ := q; cases q)) (mi_cw_nil hh) fun p e s m args below meth c s₁ B hml _ hP => core p e s m args below meth c s₁ B hml (tab0 hh s m meth c B.named B.method (Stand.of_body B).code args (by
        have := atoms_spec (ws := mi_ws mi) B.pre (mi_cw mi) List.mem_cons_self
        unfold mi_cw at this
        rw [if_pos hh] at this
        exact this)) hP
end TH
