/-! ===== texts; small helpers ===== -/
section TX
variable {mi mi' : mi_T} {fr lo fr' lo' : Nat} {G : gl_T} {M0 : mm_T} {ρ : Type} {f : ρ → rs_T × mm_T} {X : Option ρ} {L L' : List (Option Value)} {S S' Sf : List Value} {M M1 : mm_T} {pc : Nat} {ov : Option Value}
theorem gd_in {a c : Nat} (h : (mm_k M a).1 = c) (hc : c ≠ 99) : 1 ≤ a ∧ a ≤ mm_n M := ⟨(mm_k_in1 h hc).1, (mm_k_in1 h hc).2.1⟩
theorem cn_mk (h1 : fr' + 1 ≤ fr) (h2 : 8 + (mi_nL mi' + 11) + lo' ≤ lo) (h3 : Nat.ble (S.map fun v => v.category).sum 8 = true) : cn_N mi' fr lo fr' lo' S = true := by
  unfold cn_N
  rw [Nat.ble_eq_true_of_le h1, Nat.ble_eq_true_of_le h2, h3]
  rfl
theorem im_ldcWS (i pc : Nat) {ix sid : Nat} {tx : String} (h : (mi_tb mi)[i]? = some (pc, .ldc_w ix, 3)) (hw : (mi_own mi, ix, tx, sid) ∈ gs_ref) (k : im_I mi fr lo G M0 f X (pc + 3) L (.ref (st_B + sid) :: S) M) : im_I mi fr lo G M0 f X pc L S M := by
  refine fun z hz => wp_step (L' := L) (S' := .ref (st_B + sid) :: S) (fun hL hS => ⟨hL, ok_S.cons (Or.inr (Nat.le_add_right _ _)) hS⟩) (fun p l e R s m args below meth c H locs cells slots Q ls ad hx hb ho hown hts hg hS hls kk => ?_) (k z hz)
  have q := kk ls hls
  rw [List.map_cons, cv_st] at q
  have hZ := hg.1.2.2.2.2.2.1 _ hw
  intro T hT X9
  obtain ⟨t, a1, b1⟩ := q T hT X9
  exact ⟨t, X9.ldcStringW hx hown (text := tx) (index := ix) (a := gl_K G sid) hZ.1 hZ.2 (g := F0 m pc ls (S.map (cv_v G ad))) rfl (by rw [hb]; exact mi_at ho h) t a1, b1⟩
/-! the JDK's own methods of a text, walked -/
theorem im_pure {pc' : Nat} {S' : List Value} (hok : ok_S M S → ok_S M S')
    (h : ∀ (p : Program) (l : Launch) (e : Env) (R : Room) (s : State) (m : MethodId) (args : Array Value) (below : List Frame) (meth : Method) (c : Code) (H : Heap) (locs : List Loc) (cells slots : Nat) (Q : State → Prop) (ls : Array Slot) (ad : Nat → Nat),
      cx_C mi G p l s m args meth c → va_S (gl_f G) s.heap H locs → W p l e R s m args below meth c H locs cells slots Q (F0 m pc' ls (S'.map (cv_v G ad))) → W p l e R s m args below meth c H locs cells slots Q (F0 m pc ls (S.map (cv_v G ad))))
    (k : im_I mi fr lo G M0 f X pc' L S' M) : im_I mi fr lo G M0 f X pc L S M := fun z hz =>
  wp_mem (M1 := M) (L' := L) (S' := S') rfl rfl rfl (fun hw hL hS => ⟨hw, hL, hok hS⟩) (fun p l e R s m args below meth c H locs cells slots Q ls ad hcx hw hS hls hwr hva kk => h p l e R s m args below meth c H locs cells slots Q ls ad hcx hva (kk H locs hwr hva)) rfl (k z hz)
theorem im_gsC (i pc : Nat) {ix : Nat} (h : (mi_tb mi)[i]? = some (pc, .getstatic ix, 3)) (hlk : Cond.fieldLink (mi_own mi) ix "java/lang/String" "COMPACT_STRINGS" "Z" ∈ tb_G) (k : im_I mi fr lo G M0 f X (pc + 3) L (.int 1 :: S) M) : im_I mi fr lo G M0 f X pc L S M :=
  im_pure (S' := .int 1 :: S) (fun hS => ok_S.cons trivial hS) (fun p l e R s m args below meth c H locs cells slots Q ls ad hcx hva kk => va_gets hcx.1 hcx.2.1 hcx.2.2.2.2.2.2.2.1.2.1.2.2.2.1 hva hcx.2.2.2.2.2.1 (hcx.2.2.2.2.2.2.1 _ hlk) (fun x hx => hx) (mi_at hcx.2.2.2.2.2.2.2.2.2.2.2 h) kk) k
theorem cv_sf (ad : Nat → Nat) : cv_v G ad (.ref (sf_R G)) = cv_v G (fun _ => 0) (.ref (sf_R G)) := by
  show va_rf (cv_q G ad (sf_R G)) = va_rf (cv_q G (fun _ => 0) (sf_R G))
  unfold cv_q sf_R
  by_cases q : gl_V G 5000 = 0
  · rw [if_pos q, if_pos rfl, if_pos rfl]
  · rw [if_neg q, if_neg (by unfold st_B; omega), if_neg (by omega), if_neg (by unfold st_B; omega), if_neg (by omega)]
theorem im_gsF (i pc : Nat) {ix : Nat} (h : (mi_tb mi)[i]? = some (pc, .getstatic ix, 3)) (hlk : Cond.fieldLink (mi_own mi) ix "jdk/internal/util/Preconditions" "SIOOBE_FORMATTER" "Ljava/util/function/BiFunction;" ∈ tb_G) (k : im_I mi fr lo G M0 f X (pc + 3) L (.ref (sf_R G) :: S) M) : im_I mi fr lo G M0 f X pc L S M :=
  im_pure (S' := .ref (sf_R G) :: S) (fun hS => ok_S.cons (by
      show ok_r M (sf_R G)
      unfold ok_r sf_R
      split
      · exact Or.inl (Nat.zero_le _)
      · exact Or.inr (by omega)) hS) (fun p l e R s m args below meth c H locs cells slots Q ls ad hcx hva kk => by
    rw [List.map_cons, cv_sf] at kk
    exact va_gets hcx.1 hcx.2.1 hcx.2.2.2.2.2.2.2.1.2.1.2.2.2.2.1 hva hcx.2.2.2.2.2.1 (hcx.2.2.2.2.2.2.1 _ hlk) (fun x hx => hx) (mi_at hcx.2.2.2.2.2.2.2.2.2.2.2 h) kk) k
theorem cx_S {p : Program} {l : Launch} {s : State} {m : MethodId} {args : Array Value} {meth : Method} {c : Code} (h : cx_C mi G p l s m args meth c) : vk_S gs_N gs_len gs_byt (gl_K G) (gl_V G) (gl_f G) s s.heap := h.2.2.2.2.2.2.2.1.2.1.1
theorem cv_sv {p : Program} {l : Launch} {s : State} {m : MethodId} {args : Array Value} {meth : Method} {c : Code} {ad : Nat → Nat} {k : Nat} (h : cx_C mi G p l s m args meth c) (hk : k < gs_N) : cv_v G ad (.ref (st_B + (1000 + k))) = .ref (gl_V G k) := by
  rw [cv_st, h.2.2.2.2.2.2.2.1.1.2.2.2.2.2.2.2.2 k hk]
theorem im_strV (i pc : Nat) {ix k : Nat} (h : (mi_tb mi)[i]? = some (pc, .getfield ix, 3)) (hlk : Cond.fieldLink (mi_own mi) ix "java/lang/String" "value" "[B" ∈ tb_G) (hk : k < gs_N) (kk : im_I mi fr lo G M0 f X (pc + 3) L (.ref (st_B + (1000 + k)) :: S) M) : im_I mi fr lo G M0 f X pc L (.ref (st_B + k) :: S) M :=
  im_pure (S' := .ref (st_B + (1000 + k)) :: S) (fun hS => ok_S.cons (Or.inr (Nat.le_add_right _ _)) hS.tl) (fun p l e R s m args below meth c H locs cells slots Q ls ad hcx hva kk => by
    rw [List.map_cons, cv_sv hcx hk] at kk
    rw [List.map_cons, cv_st]
    exact vk_getf hcx.1 hcx.2.1 ((cx_S hcx).1 k hk).2.2.1 hva hcx.2.2.2.2.2.1 (hcx.2.2.2.2.2.2.1 _ hlk) (fun x hx => hx) (mi_at hcx.2.2.2.2.2.2.2.2.2.2.2 h) kk) kk
theorem im_strC (i pc : Nat) {ix k : Nat} (h : (mi_tb mi)[i]? = some (pc, .getfield ix, 3)) (hlk : Cond.fieldLink (mi_own mi) ix "java/lang/String" "coder" "B" ∈ tb_G) (hk : k < gs_N) (kk : im_I mi fr lo G M0 f X (pc + 3) L (.int 0 :: S) M) : im_I mi fr lo G M0 f X pc L (.ref (st_B + k) :: S) M :=
  im_pure (S' := .int 0 :: S) (fun hS => ok_S.cons trivial hS.tl) (fun p l e R s m args below meth c H locs cells slots Q ls ad hcx hva kk => by
    rw [List.map_cons, cv_st]
    exact vk_getf hcx.1 hcx.2.1 ((cx_S hcx).1 k hk).2.1 hva hcx.2.2.2.2.2.1 (hcx.2.2.2.2.2.2.1 _ hlk) (fun x hx => hx) (mi_at hcx.2.2.2.2.2.2.2.2.2.2.2 h) kk) kk
theorem im_strL (i pc : Nat) {k : Nat} (h : (mi_tb mi)[i]? = some (pc, .arraylength, 1)) (hk : k < gs_N) (kk : im_I mi fr lo G M0 f X (pc + 1) L (.int (Int32.ofNat (gs_len.getD k 0)) :: S) M) : im_I mi fr lo G M0 f X pc L (.ref (st_B + (1000 + k)) :: S) M :=
  im_pure (S' := .int (Int32.ofNat (gs_len.getD k 0)) :: S) (fun hS => ok_S.cons trivial hS.tl) (fun p l e R s m args below meth c H locs cells slots Q ls ad hcx hva kk => by
    rw [List.map_cons, cv_sv hcx hk]
    exact va_tlen hcx.1 hcx.2.1 ((cx_S hcx).1 k hk).2.2.2 hva rfl (mi_at hcx.2.2.2.2.2.2.2.2.2.2.2 h) kk) kk
theorem im_strB (i pc : Nat) {k : Nat} {j : Int32} (h : (mi_tb mi)[i]? = some (pc, .baload, 1)) (hk : k < gs_N) (hj : 0 ≤ j.toInt ∧ j.toInt < gs_len.getD k 0) (kk : im_I mi fr lo G M0 f X (pc + 1) L (.int ((gs_byt.getD k []).getD j.toInt.toNat 0) :: S) M) : im_I mi fr lo G M0 f X pc L (.int j :: .ref (st_B + (1000 + k)) :: S) M :=
  im_pure (S' := .int ((gs_byt.getD k []).getD j.toInt.toNat 0) :: S) (fun hS => ok_S.cons trivial hS.tl.tl) (fun p l e R s m args below meth c H locs cells slots Q ls ad hcx hva kk => by
    rw [List.map_cons, List.map_cons, cv_sv hcx hk]
    exact va_tb hcx.1 hcx.2.1 ((cx_S hcx).1 k hk).2.2.2 hva (va_in hj) rfl (mi_at hcx.2.2.2.2.2.2.2.2.2.2.2 h) kk) kk
theorem im_i2c (i pc : Nat) {x v : Int32} (h : (mi_tb mi)[i]? = some (pc, .i2c, 1)) (hv : (x.toUInt32 % 65536).toInt32 = v) (kk : im_I mi fr lo G M0 f X (pc + 1) L (.int v :: S) M) : im_I mi fr lo G M0 f X pc L (.int x :: S) M :=
  im_pure (S' := .int v :: S) (fun hS => ok_S.cons trivial hS.tl) (fun p l e R s m args below meth c H locs cells slots Q ls ad hcx hva kk => lv_i2c hcx.1 hcx.2.1 (mi_at hcx.2.2.2.2.2.2.2.2.2.2.2 h) hv kk) kk
/-- a call on a text -/
theorem cpT {i ix n k : Nat} {As : List Value} (h : (mi_tb mi)[i]? = some (pc, .invokevirtual ix, 3)) (hlk : Cond.methodLink (mi_own mi) ix (mi_y mi') ∈ tb_G) (hw : mi_w mi' n) (hv : mi_wV mi') (hh : (mi_hh mi').isEmpty = true) (hcls : (mi_y mi').cls = "java/lang/String") (hn : As.length = n) (hSf : Sf = As.reverse ++ .ref (st_B + k) :: S) (hcn : cn_N mi' fr lo fr' lo' S = true)
    (hk : k < gs_N) (hsp : sp_S mi' fr' lo' G (.ref (st_B + k) :: As) M (.inl ov) M1) : cp_C mi fr lo G pc L S Sf M ov M1 := by
  subst hSf
  obtain ⟨n1, n2, n3⟩ := cn_all hcn
  have hsplit : ok_S M (As.reverse ++ .ref (st_B + k) :: S) → ok_S M (.ref (st_B + k) :: As) ∧ ok_S M S := fun q => ⟨fun v hv => by
    rcases List.mem_cons.mp hv with e | e
    · exact q v (List.mem_append_right _ (by rw [e]; exact List.mem_cons_self))
    · exact q v (List.mem_append_left _ (List.mem_reverse.mpr e)), fun v hv => q v (List.mem_append_right _ (List.mem_cons_of_mem _ hv))⟩
  refine wp_of_run (a9 := fun ad => (Value.ref (gl_K G k) :: As.map (cv_v G ad)).toArray) (fun q1 q2 => ⟨(hsp q1 (hsplit q2).1).1, (hsplit q2).2⟩) ?_
  intro p l e R s m args below meth c9 H locs cells slots ls ad hcx f1 f2 hwf hS hc hs hsz hwr hva
  obtain ⟨c1, c2, c3, c4, c5, c6, c7, c8, c9', c10, c11, c12⟩ := id hcx
  have hM := (hsp hwf (hsplit hS).1).2 l ad c9'
  have e1 : (As.reverse ++ .ref (st_B + k) :: S).map (cv_v G ad) = (As.map (cv_v G ad)).reverse ++ .ref (gl_K G k) :: S.map (cv_v G ad) := by
    rw [List.map_append, List.map_reverse, List.map_cons, cv_st]
  rw [e1]
  have e2 : ((Value.ref (st_B + k) :: As).map (cv_v G ad)).toArray = (Value.ref (gl_K G k) :: As.map (cv_v G ad)).toArray := by rw [List.map_cons, cv_st]
  have hrec := vk_recv (cx_S hcx) hk hva
  have hPre : PreV s H (mi_y mi').cls (gl_K G k) (pc_P G ad (.ref (st_B + k) :: As) M) (As.map (cv_v G ad)) := ⟨pc_blind, by rw [hcls]; exact hrec, fun U hU hW => by
    have := pc_pre (as := .ref (st_B + k) :: As) hcx hwr hva hU hW
    rw [e2] at this
    exact this⟩
  exact va_runV ⟨c1, c2, c3, c6, c7⟩ hM ⟨callB_of n c7 (mi_ws_good hw.1) (mi_cw_nil hh) rfl rfl (c7 _ hw.2.1) (c7 _ hlk) hw.2.2.1 ⟨by show fr' + 1 ≤ R.frames; omega, by show 8 + (mi_nL mi' + 11) + lo' ≤ R.locals; omega⟩, c7 _ hv.1, c7 _ hv.2⟩ hPre rfl (by rw [List.length_map]; exact hn) (hsz.trans c3) rfl (lv_room (by rw [cv_sum]; exact n3)) (mi_at c12 h) ⟨hc, hs⟩
def sh_u (M : mm_T) : Unit → rs_T × mm_T := fun _ => (.inl none, M)
theorem sp_JS_coder {k : Nat} (hk : k < gs_N) : sp_S mi_JS_coder 1 20 G [.ref (st_B + k)] M (.inl (some (.int 0))) M := by
  refine sp_of mo_JS_coder mw_JS_coder (Or.inl (by decide +kernel)) rfl rfl (Or.inl rfl) ?_
  have h : im_I mi_JS_coder 1 20 G M (sh_i M) (if (1 : Int32) = 0 then none else some 0) 0 [some (.ref (st_B + k))] [] M := by
    refine im_gsC 0 0 rfl (tb_m 446 (by decide +kernel) rfl) ?_
    refine im_if_eq 1 3 13 rfl (by decide) im_none ?_
    refine im_aload_n 2 6 rfl rfl ?_
    refine im_strC 3 7 rfl (tb_m 2529 (by decide +kernel) rfl) hk ?_
    refine im_goto 4 10 14 rfl (by decide) ?_
    exact im_end rfl (wp_zreturn 6 14 (ty := .byte) rfl rfl rfl)
  exact h 0 rfl
theorem sp_JS_isLatin1 {k : Nat} (hk : k < gs_N) : sp_S mi_JS_isLatin1 1 20 G [.ref (st_B + k)] M (.inl (some (.int 1))) M := by
  refine sp_of mo_JS_isLatin1 mw_JS_isLatin1 (Or.inl (by decide +kernel)) rfl rfl (Or.inl rfl) ?_
  have h : im_I mi_JS_isLatin1 1 20 G M (sh_i M) (if (1 : Int32) = 0 then none else if (0 : Int32) = 0 then some 1 else none) 0 [some (.ref (st_B + k))] [] M := by
    refine im_gsC 0 0 rfl (tb_m 446 (by decide +kernel) rfl) ?_
    refine im_if_eq 1 3 17 rfl (by decide) im_none ?_
    refine im_aload_n 2 6 rfl rfl ?_
    refine im_strC 3 7 rfl (tb_m 2529 (by decide +kernel) rfl) hk ?_
    refine im_if_ne 4 10 17 rfl (by decide) im_none ?_
    refine im_iconst 5 13 rfl rfl ?_
    refine im_goto 6 14 18 rfl (by decide) ?_
    exact im_end rfl (wp_zreturn 8 18 (ty := .boolean) rfl rfl rfl)
  exact h 1 rfl
theorem sp_JP_checkIndex {a b : Int32} {r : Nat} (h0 : ¬ a < 0) (h1 : a < b) : sp_S mi_JP_checkIndex 1 20 G [.int a, .int b, .ref r] M (.inl (some (.int a))) M := by
  refine sp_of mo_JP_checkIndex mw_JP_checkIndex (Or.inl (by decide +kernel)) rfl rfl (Or.inl rfl) ?_
  have h : im_I mi_JP_checkIndex 1 20 G M (sh_i M) (if a < 0 then none else if a < b then some a else none) 0 [some (.int a), some (.int b), some (.ref r)] [] M := by
    refine im_iload_n 0 0 rfl rfl ?_
    refine im_if_lt 1 1 9 rfl (by decide) im_none ?_
    refine im_iload_n 2 4 rfl rfl ?_
    refine im_iload_n 3 5 rfl rfl ?_
    refine im_ic_lt 4 6 16 rfl (by decide) ?_ im_none
    refine im_iload_n 10 16 rfl rfl ?_
    exact im_end rfl (wp_ireturn 11 17 rfl rfl)
  exact h a (by rw [if_neg h0, if_pos h1])
theorem sp_JS_checkIndex {a b : Int32} (h0 : ¬ a < 0) (h1 : a < b) : sp_S mi_JS_checkIndex 2 60 G [.int a, .int b] M (.inl none) M := by
  refine sp_of mo_JS_checkIndex mw_JS_checkIndex (Or.inl (by decide +kernel)) rfl rfl (Or.inl rfl) ?_
  have h : im_I mi_JS_checkIndex 2 60 G M (sh_u M) ((some a).bind fun _ => some ()) 0 [some (.int a), some (.int b)] [] M := by
    refine im_iload_n 0 0 rfl rfl ?_
    refine im_iload_n 1 1 rfl rfl ?_
    refine im_gsF 2 2 rfl (tb_m 462 (by decide +kernel) rfl) ?_
    refine im_ci (S := []) (fun v hv => ?_) (fun v => ?_)
    · cases hv
      exact cpS (mi' := mi_JP_checkIndex) (fr' := 1) (lo' := 20) (i := 3) (As := [.int a, .int b, .ref (sf_R G)]) (S := []) rfl (Or.inl (tb_m 464 (by decide +kernel) rfl)) mw_JP_checkIndex mv_JP_checkIndex rfl rfl rfl rfl (sp_JP_checkIndex h0 h1)
    · refine im_pop 4 8 rfl rfl ?_
      exact im_end rfl (wp_return 5 9 rfl rfl)
  exact h () rfl
theorem sc_all : ∀ k, k < gs_N → gs_len.getD k 0 = (gs_byt.getD k []).length ∧ gs_len.getD k 0 < 1000 ∧ ∀ b ∈ gs_byt.getD k [], b &&& 255 = b ∧ (b.toUInt32 % 65536).toInt32 = b ∧ narrow .char (.int b) = .int b := by decide +kernel
theorem sc_ix {k : Nat} {j : Int32} (hk : k < gs_N) (hj : 0 ≤ j.toInt ∧ j.toInt < gs_len.getD k 0) : ¬ j < 0 ∧ j < Int32.ofNat (gs_len.getD k 0) := by
  obtain ⟨h1, h2, -⟩ := sc_all k hk
  have e : (Int32.ofNat (gs_len.getD k 0)).toInt = gs_len.getD k 0 := nI_toInt (by omega)
  refine ⟨?_, ?_⟩
  · rw [Int32.lt_iff_toInt_lt]
    show ¬ j.toInt < 0
    omega
  · rw [Int32.lt_iff_toInt_lt, e]
    exact hj.2
theorem gd_mem {l : List Int32} {i : Nat} {d : Int32} (h : i < l.length) : l.getD i d ∈ l := by
  rw [List.getD_eq_getElem?_getD, List.getElem?_eq_getElem h]
  exact List.getElem_mem h
theorem sp_JT_charAt {k : Nat} {j : Int32} (hk : k < gs_N) (hj : 0 ≤ j.toInt ∧ j.toInt < gs_len.getD k 0) : sp_S mi_JT_charAt 3 100 G [.ref (st_B + (1000 + k)), .int j] M (.inl (some (.int ((gs_byt.getD k []).getD j.toInt.toNat 0)))) M := by
  refine sp_of mo_JT_charAt mw_JT_charAt (Or.inl (by decide +kernel)) rfl rfl (Or.inl rfl) ?_
  obtain ⟨h0, h1⟩ := sc_ix hk hj
  obtain ⟨g1, g2, g3⟩ := sc_all k hk
  have hb : (gs_byt.getD k []).getD j.toInt.toNat 0 ∈ gs_byt.getD k [] := by
    have hl : j.toInt.toNat < (gs_byt.getD k []).length := by omega
    exact gd_mem hl
  obtain ⟨b1, b2, b3⟩ := g3 _ hb
  have h : im_I mi_JT_charAt 3 100 G M (sh_i M) ((some ()).bind fun _ => some ((gs_byt.getD k []).getD j.toInt.toNat 0)) 0 [some (.ref (st_B + (1000 + k))), some (.int j)] [] M := by
    refine im_iload_n 0 0 rfl rfl ?_
    refine im_aload_n 1 1 rfl rfl ?_
    refine im_strL 2 2 rfl hk ?_
    refine im_bd (S := []) (ov := fun _ => none) (Mf := fun _ => M) (fun v hv => ?_) (fun v => ?_)
    · exact cpS (mi' := mi_JS_checkIndex) (fr' := 2) (lo' := 60) (i := 3) (As := [.int j, .int (Int32.ofNat (gs_len.getD k 0))]) (S := []) rfl (Or.inl (tb_m 459 (by decide +kernel) rfl)) mw_JS_checkIndex mv_JS_checkIndex rfl rfl rfl rfl (sp_JS_checkIndex h0 h1)
    · refine im_aload_n 4 6 rfl rfl ?_
      refine im_iload_n 5 7 rfl rfl ?_
      refine im_strB 6 8 rfl hk hj ?_
      refine im_sipush 7 9 rfl (v := 255) rfl ?_
      refine im_iand 8 12 rfl ?_
      refine im_i2c 9 13 rfl (v := (gs_byt.getD k []).getD j.toInt.toNat 0) (by rw [b1]; exact b2) ?_
      exact im_end rfl (wp_zreturn 10 14 (ty := .char) rfl b3 rfl)
  exact h _ rfl
theorem sp_JS_charAt {k : Nat} {j : Int32} (hk : k < gs_N) (hj : 0 ≤ j.toInt ∧ j.toInt < gs_len.getD k 0) : sp_S mi_JS_charAt 4 150 G [.ref (st_B + k), .int j] M (.inl (some (.int ((gs_byt.getD k []).getD j.toInt.toNat 0)))) M := by
  refine sp_of mo_JS_charAt mw_JS_charAt (Or.inl (by decide +kernel)) rfl rfl (Or.inl rfl) ?_
  obtain ⟨g1, g2, g3⟩ := sc_all k hk
  have hb : (gs_byt.getD k []).getD j.toInt.toNat 0 ∈ gs_byt.getD k [] := by
    have hl : j.toInt.toNat < (gs_byt.getD k []).length := by omega
    exact gd_mem hl
  obtain ⟨b1, b2, b3⟩ := g3 _ hb
  have h : im_I mi_JS_charAt 4 150 G M (sh_i M) ((some (1 : Int32)).bind fun _ => if (1 : Int32) = 0 then none else (some ((gs_byt.getD k []).getD j.toInt.toNat 0)).bind fun w => some ((gs_byt.getD k []).getD j.toInt.toNat 0)) 0 [some (.ref (st_B + k)), some (.int j)] [] M := by
    refine im_aload_n 0 0 rfl rfl ?_
    refine im_bd (S := []) (ov := fun _ => some (.int 1)) (Mf := fun _ => M) (fun v hv => ?_) (fun v => ?_)
    · exact cpT (mi' := mi_JS_isLatin1) (fr' := 1) (lo' := 20) (i := 1) (k := k) (As := []) (S := []) rfl (tb_m 452 (by decide +kernel) rfl) mw_JS_isLatin1 mv_JS_isLatin1 rfl rfl rfl rfl rfl hk (sp_JS_isLatin1 hk)
    · refine im_if_eq 2 4 16 rfl (by decide) im_none ?_
      refine im_aload_n 3 7 rfl rfl ?_
      refine im_strV 4 8 rfl (tb_m 2528 (by decide +kernel) rfl) hk ?_
      refine im_iload_n 5 11 rfl rfl ?_
      refine im_bd (S := []) (ov := fun _ => some (.int ((gs_byt.getD k []).getD j.toInt.toNat 0))) (Mf := fun _ => M) (fun v hv => ?_) (fun v => ?_)
      · exact cpS (mi' := mi_JT_charAt) (fr' := 3) (lo' := 100) (i := 6) (As := [.ref (st_B + (1000 + k)), .int j]) (S := []) rfl (Or.inl (tb_m 456 (by decide +kernel) rfl)) mw_JT_charAt mv_JT_charAt rfl rfl rfl rfl (sp_JT_charAt hk hj)
      · exact im_end rfl (wp_zreturn 7 15 (ty := .char) rfl b3 rfl)
  exact h _ rfl
theorem sp_JS_length {k : Nat} (hk : k < gs_N) : sp_S mi_JS_length 2 60 G [.ref (st_B + k)] M (.inl (some (.int (Int32.ofNat (gs_len.getD k 0))))) M := by
  refine sp_of mo_JS_length mw_JS_length (Or.inl (by decide +kernel)) rfl rfl (Or.inl rfl) ?_
  have h : im_I mi_JS_length 2 60 G M (sh_i M) ((some (0 : Int32)).bind fun _ => some (io_shr (Int32.ofNat (gs_len.getD k 0)) 0)) 0 [some (.ref (st_B + k))] [] M := by
    refine im_aload_n 0 0 rfl rfl ?_
    refine im_strV 1 1 rfl (tb_m 2528 (by decide +kernel) rfl) hk ?_
    refine im_strL 2 4 rfl hk ?_
    refine im_aload_n 3 5 rfl rfl ?_
    refine im_bd (S := [.int (Int32.ofNat (gs_len.getD k 0))]) (ov := fun _ => some (.int 0)) (Mf := fun _ => M) (fun v hv => ?_) (fun v => ?_)
    · exact cpT (mi' := mi_JS_coder) (fr' := 1) (lo' := 20) (i := 4) (k := k) (As := []) (S := [.int (Int32.ofNat (gs_len.getD k 0))]) rfl (tb_m 442 (by decide +kernel) rfl) mw_JS_coder mv_JS_coder rfl rfl rfl rfl rfl hk (sp_JS_coder hk)
    · refine im_ishr 5 9 rfl ?_
      exact im_end rfl (wp_ireturn 6 10 rfl rfl)
  have e : io_shr (Int32.ofNat (gs_len.getD k 0)) 0 = Int32.ofNat (gs_len.getD k 0) := sb_shr0 _
  have := h _ rfl
  rw [e] at this
  exact this
theorem cp_len {i ix r : Nat} {v : Int32} (h : (mi_tb mi)[i]? = some (pc, .invokevirtual ix, 3)) (hlk : Cond.methodLink (mi_own mi) ix (mi_y mi_JS_length) ∈ tb_G) (hSf : Sf = .ref r :: S) (hcn : cn_N mi_JS_length fr lo 2 60 S = true) (hv : ff_JS_length r M = some v) : cp_C mi fr lo G pc L S Sf M (some (.int v)) M := by
  unfold ff_JS_length at hv
  by_cases q : st_B ≤ r ∧ r < st_B + gs_N
  · rw [if_pos q] at hv
    obtain rfl := Option.some.inj hv
    obtain ⟨k, rfl⟩ : ∃ k, r = st_B + k := ⟨r - st_B, by omega⟩
    have e : st_B + k - st_B = k := by omega
    rw [e]
    exact cpT (mi' := mi_JS_length) (k := k) (As := []) h hlk mw_JS_length mv_JS_length rfl rfl rfl hSf hcn (by omega) (sp_JS_length (by omega))
  · rw [if_neg q] at hv; exact absurd hv (by simp)
theorem cp_chr {i ix r : Nat} {j v : Int32} (h : (mi_tb mi)[i]? = some (pc, .invokevirtual ix, 3)) (hlk : Cond.methodLink (mi_own mi) ix (mi_y mi_JS_charAt) ∈ tb_G) (hSf : Sf = .int j :: .ref r :: S) (hcn : cn_N mi_JS_charAt fr lo 4 150 S = true) (hv : ff_JS_charAt r j M = some v) : cp_C mi fr lo G pc L S Sf M (some (.int v)) M := by
  unfold ff_JS_charAt at hv
  by_cases q : (st_B ≤ r ∧ r < st_B + gs_N) ∧ 0 ≤ j.toInt ∧ j.toInt < gs_len.getD (r - st_B) 0
  · rw [if_pos q] at hv
    obtain rfl := Option.some.inj hv
    obtain ⟨q1, q2⟩ := q
    obtain ⟨k, rfl⟩ : ∃ k, r = st_B + k := ⟨r - st_B, by omega⟩
    have e : st_B + k - st_B = k := by omega
    rw [e] at q2 ⊢
    exact cpT (mi' := mi_JS_charAt) (k := k) (As := [.int j]) h hlk mw_JS_charAt mv_JS_charAt rfl rfl rfl hSf hcn (by omega) (sp_JS_charAt (by omega) q2)
  · rw [if_neg q] at hv; exact absurd hv (by simp)
end TX
