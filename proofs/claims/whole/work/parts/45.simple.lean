/-! ===== a lemma an instruction: simple ones ===== -/
theorem cv_dich (G : gl_T) (ad : Nat → Nat) (x : Nat) : cv_v G ad (.ref x) = .null ∨ ∃ a, cv_v G ad (.ref x) = .ref a := by
  show va_rf (cv_q G ad x) = .null ∨ ∃ a, va_rf (cv_q G ad x) = .ref a
  cases cv_q G ad x with
  | none => exact Or.inl rfl
  | some a => exact Or.inr ⟨a, rfl⟩
theorem cv_st (G : gl_T) (ad : Nat → Nat) (i : Nat) : cv_v G ad (.ref (st_B + i)) = .ref (gl_K G i) := by
  show va_rf (cv_q G ad (st_B + i)) = _
  unfold cv_q
  rw [if_neg (by unfold st_B; omega), if_neg (by omega), Nat.add_sub_cancel_left]
  rfl
theorem cv_c1 {G : gl_T} {ad : Nat → Nat} {v : Value} (h : ct_2 v = false) : (cv_v G ad v).category = 1 := by
  rcases lv_cat (cv_v G ad v) with q | q
  · exact q
  · exact absurd q (ct_2_cat h)
section IM
variable {mi : mi_T} {fr lo : Nat} {G : gl_T} {M0 : mm_T} {ρ : Type} {f : ρ → rs_T × mm_T} {X Y : Option ρ} {L L' : List (Option Value)} {S S' : List Value} {M : mm_T}
theorem im_none {pc : Nat} : im_I mi fr lo G M0 f (none : Option ρ) pc L S M := fun _ h => nomatch h
theorem im_less {pc : Nat} (L' : List (Option Value)) (hl : lv_le L' L = true) (k : im_I mi fr lo G M0 f X pc L' S M) : im_I mi fr lo G M0 f X pc L S M := fun z hz => wp_less hl (k z hz)
theorem im_eq {pc : Nat} (h : X = Y) (k : im_I mi fr lo G M0 f Y pc L S M) : im_I mi fr lo G M0 f X pc L S M := h ▸ k
theorem im_ite {pc : Nat} {c : Prop} [Decidable c] (kt : c → im_I mi fr lo G M0 f X pc L S M) (kf : ¬ c → im_I mi fr lo G M0 f Y pc L S M) : im_I mi fr lo G M0 f (if c then X else Y) pc L S M := by
  by_cases h : c
  · rw [if_pos h]; exact kt h
  · rw [if_neg h]; exact kf h
/-- a value gets a name -/
theorem im_let {pc : Nat} {α : Type} {e : α} {kf : α → Option ρ} (k : im_I mi fr lo G M0 f (kf e) pc L S M) : im_I mi fr lo G M0 f ((some e).bind kf) pc L S M := k
theorem im_letI {pc : Nat} {e : Int32} {kf : Int32 → Option ρ} (k : ∀ x : Int32, im_I mi fr lo G M0 f (kf x) pc L (.int x :: S) M) : im_I mi fr lo G M0 f ((some e).bind kf) pc L (.int e :: S) M := k e
theorem im_letJ {pc : Nat} {e : Int64} {kf : Int64 → Option ρ} (k : ∀ x : Int64, im_I mi fr lo G M0 f (kf x) pc L (.long x :: S) M) : im_I mi fr lo G M0 f ((some e).bind kf) pc L (.long e :: S) M := k e
theorem im_letR {pc : Nat} {e : Nat} {kf : Nat → Option ρ} (k : ∀ x : Nat, im_I mi fr lo G M0 f (kf x) pc L (.ref x :: S) M) : im_I mi fr lo G M0 f ((some e).bind kf) pc L (.ref e :: S) M := k e
theorem im_letD {pc : Nat} {e : UInt64} {kf : UInt64 → Option ρ} (k : ∀ x : UInt64, im_I mi fr lo G M0 f (kf x) pc L (.double x :: S) M) : im_I mi fr lo G M0 f ((some e).bind kf) pc L (.double e :: S) M := k e
theorem im_iadd (i pc : Nat) {x y : Int32} (h : (mi_tb mi)[i]? = some (pc, .iadd, 1)) (k : im_I mi fr lo G M0 f X (pc + 1) L (.int (x + y) :: S) M) : im_I mi fr lo G M0 f X pc L (.int y :: .int x :: S) M :=
  fun z hz => wp_step (L' := L) (S' := .int (x + y) :: S) (fun hL hS => ⟨hL, ok_S.cons trivial hS.tl.tl⟩) (fun p l e R s m args below meth c H locs cells slots Q ls ad hx hb ho hown hts hg hS hls kk => lv_iadd hx hb (mi_at ho h) (kk ls hls)) (k z hz)
theorem im_isub (i pc : Nat) {x y : Int32} (h : (mi_tb mi)[i]? = some (pc, .isub, 1)) (k : im_I mi fr lo G M0 f X (pc + 1) L (.int (x - y) :: S) M) : im_I mi fr lo G M0 f X pc L (.int y :: .int x :: S) M :=
  fun z hz => wp_step (L' := L) (S' := .int (x - y) :: S) (fun hL hS => ⟨hL, ok_S.cons trivial hS.tl.tl⟩) (fun p l e R s m args below meth c H locs cells slots Q ls ad hx hb ho hown hts hg hS hls kk => lv_isub hx hb (mi_at ho h) (kk ls hls)) (k z hz)
theorem im_imul (i pc : Nat) {x y : Int32} (h : (mi_tb mi)[i]? = some (pc, .imul, 1)) (k : im_I mi fr lo G M0 f X (pc + 1) L (.int (x * y) :: S) M) : im_I mi fr lo G M0 f X pc L (.int y :: .int x :: S) M :=
  fun z hz => wp_step (L' := L) (S' := .int (x * y) :: S) (fun hL hS => ⟨hL, ok_S.cons trivial hS.tl.tl⟩) (fun p l e R s m args below meth c H locs cells slots Q ls ad hx hb ho hown hts hg hS hls kk => lv_imul hx hb (mi_at ho h) (kk ls hls)) (k z hz)
theorem im_iand (i pc : Nat) {x y : Int32} (h : (mi_tb mi)[i]? = some (pc, .iand, 1)) (k : im_I mi fr lo G M0 f X (pc + 1) L (.int (x &&& y) :: S) M) : im_I mi fr lo G M0 f X pc L (.int y :: .int x :: S) M :=
  fun z hz => wp_step (L' := L) (S' := .int (x &&& y) :: S) (fun hL hS => ⟨hL, ok_S.cons trivial hS.tl.tl⟩) (fun p l e R s m args below meth c H locs cells slots Q ls ad hx hb ho hown hts hg hS hls kk => lv_iand hx hb (mi_at ho h) (kk ls hls)) (k z hz)
theorem im_ior (i pc : Nat) {x y : Int32} (h : (mi_tb mi)[i]? = some (pc, .ior, 1)) (k : im_I mi fr lo G M0 f X (pc + 1) L (.int (x ||| y) :: S) M) : im_I mi fr lo G M0 f X pc L (.int y :: .int x :: S) M :=
  fun z hz => wp_step (L' := L) (S' := .int (x ||| y) :: S) (fun hL hS => ⟨hL, ok_S.cons trivial hS.tl.tl⟩) (fun p l e R s m args below meth c H locs cells slots Q ls ad hx hb ho hown hts hg hS hls kk => lv_ior hx hb (mi_at ho h) (kk ls hls)) (k z hz)
theorem im_ixor (i pc : Nat) {x y : Int32} (h : (mi_tb mi)[i]? = some (pc, .ixor, 1)) (k : im_I mi fr lo G M0 f X (pc + 1) L (.int (x ^^^ y) :: S) M) : im_I mi fr lo G M0 f X pc L (.int y :: .int x :: S) M :=
  fun z hz => wp_step (L' := L) (S' := .int (x ^^^ y) :: S) (fun hL hS => ⟨hL, ok_S.cons trivial hS.tl.tl⟩) (fun p l e R s m args below meth c H locs cells slots Q ls ad hx hb ho hown hts hg hS hls kk => lv_ixor hx hb (mi_at ho h) (kk ls hls)) (k z hz)
theorem im_ishl (i pc : Nat) {x y : Int32} (h : (mi_tb mi)[i]? = some (pc, .ishl, 1)) (k : im_I mi fr lo G M0 f X (pc + 1) L (.int (io_shl x y) :: S) M) : im_I mi fr lo G M0 f X pc L (.int y :: .int x :: S) M :=
  fun z hz => wp_step (L' := L) (S' := .int (io_shl x y) :: S) (fun hL hS => ⟨hL, ok_S.cons trivial hS.tl.tl⟩) (fun p l e R s m args below meth c H locs cells slots Q ls ad hx hb ho hown hts hg hS hls kk => lv_ishl hx hb (mi_at ho h) (kk ls hls)) (k z hz)
theorem im_ishr (i pc : Nat) {x y : Int32} (h : (mi_tb mi)[i]? = some (pc, .ishr, 1)) (k : im_I mi fr lo G M0 f X (pc + 1) L (.int (io_shr x y) :: S) M) : im_I mi fr lo G M0 f X pc L (.int y :: .int x :: S) M :=
  fun z hz => wp_step (L' := L) (S' := .int (io_shr x y) :: S) (fun hL hS => ⟨hL, ok_S.cons trivial hS.tl.tl⟩) (fun p l e R s m args below meth c H locs cells slots Q ls ad hx hb ho hown hts hg hS hls kk => lv_ishr hx hb (mi_at ho h) (kk ls hls)) (k z hz)
theorem im_iushr (i pc : Nat) {x y : Int32} (h : (mi_tb mi)[i]? = some (pc, .iushr, 1)) (k : im_I mi fr lo G M0 f X (pc + 1) L (.int (io_ushr x y) :: S) M) : im_I mi fr lo G M0 f X pc L (.int y :: .int x :: S) M :=
  fun z hz => wp_step (L' := L) (S' := .int (io_ushr x y) :: S) (fun hL hS => ⟨hL, ok_S.cons trivial hS.tl.tl⟩) (fun p l e R s m args below meth c H locs cells slots Q ls ad hx hb ho hown hts hg hS hls kk => lv_iushr hx hb (mi_at ho h) rfl (kk ls hls)) (k z hz)
theorem im_ladd (i pc : Nat) {x y : Int64} (h : (mi_tb mi)[i]? = some (pc, .ladd, 1)) (k : im_I mi fr lo G M0 f X (pc + 1) L (.long (x + y) :: S) M) : im_I mi fr lo G M0 f X pc L (.long y :: .long x :: S) M :=
  fun z hz => wp_step (L' := L) (S' := .long (x + y) :: S) (fun hL hS => ⟨hL, ok_S.cons trivial hS.tl.tl⟩) (fun p l e R s m args below meth c H locs cells slots Q ls ad hx hb ho hown hts hg hS hls kk => lv_ladd hx hb (mi_at ho h) (kk ls hls)) (k z hz)
theorem im_lsub (i pc : Nat) {x y : Int64} (h : (mi_tb mi)[i]? = some (pc, .lsub, 1)) (k : im_I mi fr lo G M0 f X (pc + 1) L (.long (x - y) :: S) M) : im_I mi fr lo G M0 f X pc L (.long y :: .long x :: S) M :=
  fun z hz => wp_step (L' := L) (S' := .long (x - y) :: S) (fun hL hS => ⟨hL, ok_S.cons trivial hS.tl.tl⟩) (fun p l e R s m args below meth c H locs cells slots Q ls ad hx hb ho hown hts hg hS hls kk => lv_lsub hx hb (mi_at ho h) (kk ls hls)) (k z hz)
theorem im_land (i pc : Nat) {x y : Int64} (h : (mi_tb mi)[i]? = some (pc, .land, 1)) (k : im_I mi fr lo G M0 f X (pc + 1) L (.long (x &&& y) :: S) M) : im_I mi fr lo G M0 f X pc L (.long y :: .long x :: S) M :=
  fun z hz => wp_step (L' := L) (S' := .long (x &&& y) :: S) (fun hL hS => ⟨hL, ok_S.cons trivial hS.tl.tl⟩) (fun p l e R s m args below meth c H locs cells slots Q ls ad hx hb ho hown hts hg hS hls kk => lv_land hx hb (mi_at ho h) (kk ls hls)) (k z hz)
theorem im_lor (i pc : Nat) {x y : Int64} (h : (mi_tb mi)[i]? = some (pc, .lor, 1)) (k : im_I mi fr lo G M0 f X (pc + 1) L (.long (x ||| y) :: S) M) : im_I mi fr lo G M0 f X pc L (.long y :: .long x :: S) M :=
  fun z hz => wp_step (L' := L) (S' := .long (x ||| y) :: S) (fun hL hS => ⟨hL, ok_S.cons trivial hS.tl.tl⟩) (fun p l e R s m args below meth c H locs cells slots Q ls ad hx hb ho hown hts hg hS hls kk => lv_lor hx hb (mi_at ho h) (kk ls hls)) (k z hz)
theorem im_lxor (i pc : Nat) {x y : Int64} (h : (mi_tb mi)[i]? = some (pc, .lxor, 1)) (k : im_I mi fr lo G M0 f X (pc + 1) L (.long (x ^^^ y) :: S) M) : im_I mi fr lo G M0 f X pc L (.long y :: .long x :: S) M :=
  fun z hz => wp_step (L' := L) (S' := .long (x ^^^ y) :: S) (fun hL hS => ⟨hL, ok_S.cons trivial hS.tl.tl⟩) (fun p l e R s m args below meth c H locs cells slots Q ls ad hx hb ho hown hts hg hS hls kk => lv_lxor hx hb (mi_at ho h) (kk ls hls)) (k z hz)
theorem im_lshl (i pc : Nat) {x : Int64} {y : Int32} (h : (mi_tb mi)[i]? = some (pc, .lshl, 1)) (k : im_I mi fr lo G M0 f X (pc + 1) L (.long (jo_shl x y) :: S) M) : im_I mi fr lo G M0 f X pc L (.int y :: .long x :: S) M :=
  fun z hz => wp_step (L' := L) (S' := .long (jo_shl x y) :: S) (fun hL hS => ⟨hL, ok_S.cons trivial hS.tl.tl⟩) (fun p l e R s m args below meth c H locs cells slots Q ls ad hx hb ho hown hts hg hS hls kk => lv_lshl hx hb (mi_at ho h) rfl (kk ls hls)) (k z hz)
theorem im_lushr (i pc : Nat) {x : Int64} {y : Int32} (h : (mi_tb mi)[i]? = some (pc, .lushr, 1)) (k : im_I mi fr lo G M0 f X (pc + 1) L (.long (jo_ushr x y) :: S) M) : im_I mi fr lo G M0 f X pc L (.int y :: .long x :: S) M :=
  fun z hz => wp_step (L' := L) (S' := .long (jo_ushr x y) :: S) (fun hL hS => ⟨hL, ok_S.cons trivial hS.tl.tl⟩) (fun p l e R s m args below meth c H locs cells slots Q ls ad hx hb ho hown hts hg hS hls kk => lv_lushr hx hb (mi_at ho h) rfl (kk ls hls)) (k z hz)
theorem im_lcmp (i pc : Nat) {x y : Int64} (h : (mi_tb mi)[i]? = some (pc, .lcmp, 1)) (k : im_I mi fr lo G M0 f X (pc + 1) L (.int (lg_cmp x y) :: S) M) : im_I mi fr lo G M0 f X pc L (.long y :: .long x :: S) M :=
  fun z hz => wp_step (L' := L) (S' := .int (lg_cmp x y) :: S) (fun hL hS => ⟨hL, ok_S.cons trivial hS.tl.tl⟩) (fun p l e R s m args below meth c H locs cells slots Q ls ad hx hb ho hown hts hg hS hls kk => W.lcmp hx hb (mi_at ho h) (kk ls hls)) (k z hz)
theorem im_i2l (i pc : Nat) {x : Int32} (h : (mi_tb mi)[i]? = some (pc, .i2l, 1)) (k : im_I mi fr lo G M0 f X (pc + 1) L (.long x.toInt64 :: S) M) : im_I mi fr lo G M0 f X pc L (.int x :: S) M :=
  fun z hz => wp_step (L' := L) (S' := .long x.toInt64 :: S) (fun hL hS => ⟨hL, ok_S.cons trivial hS.tl⟩) (fun p l e R s m args below meth c H locs cells slots Q ls ad hx hb ho hown hts hg hS hls kk => lv_i2l hx hb (mi_at ho h) rfl (kk ls hls)) (k z hz)
theorem im_l2i (i pc : Nat) {x : Int64} (h : (mi_tb mi)[i]? = some (pc, .l2i, 1)) (k : im_I mi fr lo G M0 f X (pc + 1) L (.int x.toInt32 :: S) M) : im_I mi fr lo G M0 f X pc L (.long x :: S) M :=
  fun z hz => wp_step (L' := L) (S' := .int x.toInt32 :: S) (fun hL hS => ⟨hL, ok_S.cons trivial hS.tl⟩) (fun p l e R s m args below meth c H locs cells slots Q ls ad hx hb ho hown hts hg hS hls kk => lv_l2i hx hb (mi_at ho h) rfl (kk ls hls)) (k z hz)
theorem im_i2f (i pc : Nat) {x : Int32} (h : (mi_tb mi)[i]? = some (pc, .i2f, 1)) (k : im_I mi fr lo G M0 f X (pc + 1) L (.float (FP.i2f x) :: S) M) : im_I mi fr lo G M0 f X pc L (.int x :: S) M :=
  fun z hz => wp_step (L' := L) (S' := .float (FP.i2f x) :: S) (fun hL hS => ⟨hL, ok_S.cons trivial hS.tl⟩) (fun p l e R s m args below meth c H locs cells slots Q ls ad hx hb ho hown hts hg hS hls kk => lv_i2f hx hb (mi_at ho h) (kk ls hls)) (k z hz)
theorem im_i2d (i pc : Nat) {x : Int32} (h : (mi_tb mi)[i]? = some (pc, .i2d, 1)) (k : im_I mi fr lo G M0 f X (pc + 1) L (.double (FP.i2d x) :: S) M) : im_I mi fr lo G M0 f X pc L (.int x :: S) M :=
  fun z hz => wp_step (L' := L) (S' := .double (FP.i2d x) :: S) (fun hL hS => ⟨hL, ok_S.cons trivial hS.tl⟩) (fun p l e R s m args below meth c H locs cells slots Q ls ad hx hb ho hown hts hg hS hls kk => lv_i2d hx hb (mi_at ho h) (kk ls hls)) (k z hz)
theorem im_dcmp (i pc : Nat) {x y : UInt64} {op : CmpOp} (h : (mi_tb mi)[i]? = some (pc, .dcmp op, 1)) (k : im_I mi fr lo G M0 f X (pc + 1) L (.int (Op.cmpValue (FP.dcmp x y) op) :: S) M) : im_I mi fr lo G M0 f X pc L (.double y :: .double x :: S) M :=
  fun z hz => wp_step (L' := L) (S' := .int (Op.cmpValue (FP.dcmp x y) op) :: S) (fun hL hS => ⟨hL, ok_S.cons trivial hS.tl.tl⟩) (fun p l e R s m args below meth c H locs cells slots Q ls ad hx hb ho hown hts hg hS hls kk => lv_dcmp hx hb (mi_at ho h) (kk ls hls)) (k z hz)
theorem im_fconst0 (i pc : Nat)  (h : (mi_tb mi)[i]? = some (pc, .fconst 0, 1)) (k : im_I mi fr lo G M0 f X (pc + 1) L (.float FP.fconst0 :: S) M) : im_I mi fr lo G M0 f X pc L (S) M :=
  fun z hz => wp_step (L' := L) (S' := .float FP.fconst0 :: S) (fun hL hS => ⟨hL, ok_S.cons trivial hS⟩) (fun p l e R s m args below meth c H locs cells slots Q ls ad hx hb ho hown hts hg hS hls kk => lv_fconst0 hx hb (mi_at ho h) (kk ls hls)) (k z hz)
theorem im_dconst0 (i pc : Nat)  (h : (mi_tb mi)[i]? = some (pc, .dconst 0, 1)) (k : im_I mi fr lo G M0 f X (pc + 1) L (.double FP.dconst0 :: S) M) : im_I mi fr lo G M0 f X pc L (S) M :=
  fun z hz => wp_step (L' := L) (S' := .double FP.dconst0 :: S) (fun hL hS => ⟨hL, ok_S.cons trivial hS⟩) (fun p l e R s m args below meth c H locs cells slots Q ls ad hx hb ho hown hts hg hS hls kk => lv_dconst0 hx hb (mi_at ho h) (kk ls hls)) (k z hz)
theorem im_iconst (i pc : Nat) {n : Int} {v : Int32} (h : (mi_tb mi)[i]? = some (pc, .iconst n, 1)) (hv : Int32.ofInt n = v) (k : im_I mi fr lo G M0 f X (pc + 1) L (.int v :: S) M) : im_I mi fr lo G M0 f X pc L (S) M :=
  fun z hz => wp_step (L' := L) (S' := .int v :: S) (fun hL hS => ⟨hL, ok_S.cons trivial hS⟩) (fun p l e R s m args below meth c H locs cells slots Q ls ad hx hb ho hown hts hg hS hls kk => lv_iconst hx hb (mi_at ho h) hv (kk ls hls)) (k z hz)
theorem im_bipush (i pc : Nat) {n : Int} {v : Int32} (h : (mi_tb mi)[i]? = some (pc, .bipush n, 2)) (hv : (Int8.ofInt n).toInt32 = v) (k : im_I mi fr lo G M0 f X (pc + 2) L (.int v :: S) M) : im_I mi fr lo G M0 f X pc L (S) M :=
  fun z hz => wp_step (L' := L) (S' := .int v :: S) (fun hL hS => ⟨hL, ok_S.cons trivial hS⟩) (fun p l e R s m args below meth c H locs cells slots Q ls ad hx hb ho hown hts hg hS hls kk => lv_bipush hx hb (mi_at ho h) hv (kk ls hls)) (k z hz)
theorem im_sipush (i pc : Nat) {n : Int} {v : Int32} (h : (mi_tb mi)[i]? = some (pc, .sipush n, 3)) (hv : (Int16.ofInt n).toInt32 = v) (k : im_I mi fr lo G M0 f X (pc + 3) L (.int v :: S) M) : im_I mi fr lo G M0 f X pc L (S) M :=
  fun z hz => wp_step (L' := L) (S' := .int v :: S) (fun hL hS => ⟨hL, ok_S.cons trivial hS⟩) (fun p l e R s m args below meth c H locs cells slots Q ls ad hx hb ho hown hts hg hS hls kk => lv_sipush hx hb (mi_at ho h) hv (kk ls hls)) (k z hz)
theorem im_lconst (i pc : Nat) {n : Fin 2} {v : Int64} (h : (mi_tb mi)[i]? = some (pc, .lconst n, 1)) (hv : Int64.ofNat (n : Nat) = v) (k : im_I mi fr lo G M0 f X (pc + 1) L (.long v :: S) M) : im_I mi fr lo G M0 f X pc L (S) M :=
  fun z hz => wp_step (L' := L) (S' := .long v :: S) (fun hL hS => ⟨hL, ok_S.cons trivial hS⟩) (fun p l e R s m args below meth c H locs cells slots Q ls ad hx hb ho hown hts hg hS hls kk => lv_lconst hx hb (mi_at ho h) hv (kk ls hls)) (k z hz)
theorem im_ldcS (i pc : Nat) {ix sid : Nat} {tx : String} (h : (mi_tb mi)[i]? = some (pc, .ldc ix, 2)) (hw : (mi_own mi, ix, tx, sid) ∈ gs_ref) (k : im_I mi fr lo G M0 f X (pc + 2) L (.ref (st_B + sid) :: S) M) : im_I mi fr lo G M0 f X pc L S M := by
  refine fun z hz => wp_step (L' := L) (S' := .ref (st_B + sid) :: S) (fun hL hS => ⟨hL, ok_S.cons (Or.inr (Nat.le_add_right _ _)) hS⟩) (fun p l e R s m args below meth c H locs cells slots Q ls ad hx hb ho hown hts hg hS hls kk => ?_) (k z hz)
  have q := kk ls hls
  rw [List.map_cons, cv_st] at q
  exact va_ldcS hx hb hown (hg.1.2.2.2.2.2.1 _ hw) (mi_at ho h) q
theorem im_ldcI (i pc : Nat) {ix : Nat} {v : Int32} (h : (mi_tb mi)[i]? = some (pc, .ldc ix, 2)) (hw : Cond.constant (mi_own mi) ix v ∈ tb_G) (k : im_I mi fr lo G M0 f X (pc + 2) L (.int v :: S) M) : im_I mi fr lo G M0 f X pc L (S) M :=
  fun z hz => wp_step (L' := L) (S' := .int v :: S) (fun hL hS => ⟨hL, ok_S.cons trivial hS⟩) (fun p l e R s m args below meth c H locs cells slots Q ls ad hx hb ho hown hts hg hS hls kk => lv_ldc hx hb hown (hts _ hw) (mi_at ho h) (kk ls hls)) (k z hz)
theorem im_ldcW (i pc : Nat) {ix : Nat} {v : Int32} (h : (mi_tb mi)[i]? = some (pc, .ldc_w ix, 3)) (hw : Cond.constant (mi_own mi) ix v ∈ tb_G) (k : im_I mi fr lo G M0 f X (pc + 3) L (.int v :: S) M) : im_I mi fr lo G M0 f X pc L (S) M :=
  fun z hz => wp_step (L' := L) (S' := .int v :: S) (fun hL hS => ⟨hL, ok_S.cons trivial hS⟩) (fun p l e R s m args below meth c H locs cells slots Q ls ad hx hb ho hown hts hg hS hls kk => lv_ldcw hx hb hown (hts _ hw) (mi_at ho h) (kk ls hls)) (k z hz)
theorem im_ldc2 (i pc : Nat) {ix : Nat} {v : Int64} (h : (mi_tb mi)[i]? = some (pc, .ldc2_w ix, 3)) (hw : Cond.constantLong (mi_own mi) ix v ∈ tb_G) (k : im_I mi fr lo G M0 f X (pc + 3) L (.long v :: S) M) : im_I mi fr lo G M0 f X pc L (S) M :=
  fun z hz => wp_step (L' := L) (S' := .long v :: S) (fun hL hS => ⟨hL, ok_S.cons trivial hS⟩) (fun p l e R s m args below meth c H locs cells slots Q ls ad hx hb ho hown hts hg hS hls kk => lv_ldc2 hx hb hown (hts _ hw) (mi_at ho h) (kk ls hls)) (k z hz)
theorem im_dup (i pc : Nat) {va : Value} (h : (mi_tb mi)[i]? = some (pc, .dup, 1)) (hc : ct_2 va = false) (k : im_I mi fr lo G M0 f X (pc + 1) L (va :: va :: S) M) : im_I mi fr lo G M0 f X pc L (va :: S) M :=
  fun z hz => wp_step (L' := L) (S' := va :: va :: S) (fun hL hS => ⟨hL, ok_S.cons hS.hd hS⟩) (fun p l e R s m args below meth c H locs cells slots Q ls ad hx hb ho hown hts hg hS hls kk => lv_dup hx hb (mi_at ho h) (cv_c1 hc) (kk ls hls)) (k z hz)
theorem im_dup2 (i pc : Nat) {va vb : Value} (h : (mi_tb mi)[i]? = some (pc, .dup2, 1)) (hc : ct_2 va = false) (hd : ct_2 vb = false) (k : im_I mi fr lo G M0 f X (pc + 1) L (va :: vb :: va :: vb :: S) M) : im_I mi fr lo G M0 f X pc L (va :: vb :: S) M :=
  fun z hz => wp_step (L' := L) (S' := va :: vb :: va :: vb :: S) (fun hL hS => ⟨hL, ok_S.cons hS.hd (ok_S.cons hS.tl.hd hS)⟩) (fun p l e R s m args below meth c H locs cells slots Q ls ad hx hb ho hown hts hg hS hls kk => lv_dup2_11 hx hb (mi_at ho h) (cv_c1 hc) (cv_c1 hd) (kk ls hls)) (k z hz)
theorem im_pop (i pc : Nat) {va : Value} (h : (mi_tb mi)[i]? = some (pc, .pop, 1)) (hc : ct_2 va = false) (k : im_I mi fr lo G M0 f X (pc + 1) L (S) M) : im_I mi fr lo G M0 f X pc L (va :: S) M :=
  fun z hz => wp_step (L' := L) (S' := S) (fun hL hS => ⟨hL, hS.tl⟩) (fun p l e R s m args below meth c H locs cells slots Q ls ad hx hb ho hown hts hg hS hls kk => lv_pop hx hb (mi_at ho h) (cv_c1 hc) (kk ls hls)) (k z hz)
theorem im_iload_n (i pc : Nat) {j : Fin 4} {x : Int32} (h : (mi_tb mi)[i]? = some (pc, .iload_n j, 1)) (hl : L[(j : Nat)]? = some (some (.int x))) (k : im_I mi fr lo G M0 f X (pc + 1) L (.int x :: S) M) : im_I mi fr lo G M0 f X pc L (S) M :=
  fun z hz => wp_step (L' := L) (S' := .int x :: S) (fun hL hS => ⟨hL, ok_S.cons trivial hS⟩) (fun p l e R s m args below meth c H locs cells slots Q ls ad hx hb ho hown hts hg hS hls kk => lv_iload_n hx hb (mi_at ho h) rfl (lv_l_at hls hl) (kk ls hls)) (k z hz)
theorem im_iload (i pc : Nat) {j : Nat} {x : Int32} (h : (mi_tb mi)[i]? = some (pc, .iload j, 2)) (hl : L[j]? = some (some (.int x))) (k : im_I mi fr lo G M0 f X (pc + 2) L (.int x :: S) M) : im_I mi fr lo G M0 f X pc L (S) M :=
  fun z hz => wp_step (L' := L) (S' := .int x :: S) (fun hL hS => ⟨hL, ok_S.cons trivial hS⟩) (fun p l e R s m args below meth c H locs cells slots Q ls ad hx hb ho hown hts hg hS hls kk => lv_iload hx hb (mi_at ho h) (lv_l_at hls hl) (kk ls hls)) (k z hz)
theorem im_lload_n (i pc : Nat) {j : Fin 4} {x : Int64} (h : (mi_tb mi)[i]? = some (pc, .lload_n j, 1)) (hl : L[(j : Nat)]? = some (some (.long x))) (k : im_I mi fr lo G M0 f X (pc + 1) L (.long x :: S) M) : im_I mi fr lo G M0 f X pc L (S) M :=
  fun z hz => wp_step (L' := L) (S' := .long x :: S) (fun hL hS => ⟨hL, ok_S.cons trivial hS⟩) (fun p l e R s m args below meth c H locs cells slots Q ls ad hx hb ho hown hts hg hS hls kk => lv_lload_n hx hb (mi_at ho h) rfl (lv_l_at hls hl) (kk ls hls)) (k z hz)
theorem im_lload (i pc : Nat) {j : Nat} {x : Int64} (h : (mi_tb mi)[i]? = some (pc, .lload j, 2)) (hl : L[j]? = some (some (.long x))) (k : im_I mi fr lo G M0 f X (pc + 2) L (.long x :: S) M) : im_I mi fr lo G M0 f X pc L (S) M :=
  fun z hz => wp_step (L' := L) (S' := .long x :: S) (fun hL hS => ⟨hL, ok_S.cons trivial hS⟩) (fun p l e R s m args below meth c H locs cells slots Q ls ad hx hb ho hown hts hg hS hls kk => lv_lload hx hb (mi_at ho h) (lv_l_at hls hl) (kk ls hls)) (k z hz)
theorem im_dload (i pc : Nat) {j : Nat} {x : UInt64} (h : (mi_tb mi)[i]? = some (pc, .dload j, 2)) (hl : L[j]? = some (some (.double x))) (k : im_I mi fr lo G M0 f X (pc + 2) L (.double x :: S) M) : im_I mi fr lo G M0 f X pc L (S) M :=
  fun z hz => wp_step (L' := L) (S' := .double x :: S) (fun hL hS => ⟨hL, ok_S.cons trivial hS⟩) (fun p l e R s m args below meth c H locs cells slots Q ls ad hx hb ho hown hts hg hS hls kk => lv_dload hx hb (mi_at ho h) (lv_l_at hls hl) (kk ls hls)) (k z hz)
theorem im_aload_n (i pc : Nat) {j : Fin 4} {x : Nat} (h : (mi_tb mi)[i]? = some (pc, .aload_n j, 1)) (hl : L[(j : Nat)]? = some (some (.ref x))) (k : im_I mi fr lo G M0 f X (pc + 1) L (.ref x :: S) M) : im_I mi fr lo G M0 f X pc L S M := by
  refine fun z hz => wp_step (L' := L) (S' := .ref x :: S) (fun hL hS => ⟨hL, ok_S.cons (hL _ (List.mem_of_getElem? hl)) hS⟩) (fun p l e R s m args below meth c H locs cells slots Q ls ad hx hb ho hown hts hg hS hls kk => ?_) (k z hz)
  have q := kk ls hls
  have hv := lv_l_at hls hl
  rcases cv_dich G ad x with e | ⟨a, e⟩
  · rw [List.map_cons, e] at q
    rw [e] at hv
    exact lv_aload_nN hx hb (mi_at ho h) rfl hv q
  · rw [List.map_cons, e] at q
    rw [e] at hv
    exact lv_aload_n hx hb (mi_at ho h) rfl hv q
theorem im_aload (i pc : Nat) {j : Nat} {x : Nat} (h : (mi_tb mi)[i]? = some (pc, .aload j, 2)) (hl : L[j]? = some (some (.ref x))) (k : im_I mi fr lo G M0 f X (pc + 2) L (.ref x :: S) M) : im_I mi fr lo G M0 f X pc L S M := by
  refine fun z hz => wp_step (L' := L) (S' := .ref x :: S) (fun hL hS => ⟨hL, ok_S.cons (hL _ (List.mem_of_getElem? hl)) hS⟩) (fun p l e R s m args below meth c H locs cells slots Q ls ad hx hb ho hown hts hg hS hls kk => ?_) (k z hz)
  have q := kk ls hls
  have hv := lv_l_at hls hl
  rcases cv_dich G ad x with e | ⟨a, e⟩
  · rw [List.map_cons, e] at q
    rw [e] at hv
    exact lv_aloadN hx hb (mi_at ho h) hv q
  · rw [List.map_cons, e] at q
    rw [e] at hv
    exact lv_aload hx hb (mi_at ho h) hv q
theorem im_istore_n (i pc : Nat) {j : Fin 4} {x : Int32} (L' : List (Option Value)) (h : (mi_tb mi)[i]? = some (pc, .istore_n j, 1)) (hj : Nat.ble ((j : Nat) + 1) (mi_nL mi) = true) (hL' : st_1 L (j : Nat) (.int x) = L') (k : im_I mi fr lo G M0 f X (pc + 1) L' S M) : im_I mi fr lo G M0 f X pc L (.int x :: S) M := by
  subst hL'
  exact fun z hz => wp_step (L' := st_1 L (j : Nat) (.int x)) (S' := S) (fun hL hS => ⟨st_1_ok hL hS.hd, hS.tl⟩) (fun p l e R s m args below meth c H locs cells slots Q ls ad hx hb ho hown hts hg hS hls kk => lv_istore_n hx hb (mi_at ho h) rfl hls (Nat.le_of_ble_eq_true hj) rfl (fun ls2 hl2 => kk ls2 (hl2.less st_1_lv))) (k z hz)
theorem im_istore (i pc : Nat) {j : Nat} {x : Int32} (L' : List (Option Value)) (h : (mi_tb mi)[i]? = some (pc, .istore j, 2)) (hj : Nat.ble (j + 1) (mi_nL mi) = true) (hL' : st_1 L j (.int x) = L') (k : im_I mi fr lo G M0 f X (pc + 2) L' S M) : im_I mi fr lo G M0 f X pc L (.int x :: S) M := by
  subst hL'
  exact fun z hz => wp_step (L' := st_1 L j (.int x)) (S' := S) (fun hL hS => ⟨st_1_ok hL hS.hd, hS.tl⟩) (fun p l e R s m args below meth c H locs cells slots Q ls ad hx hb ho hown hts hg hS hls kk => lv_istore hx hb (mi_at ho h) hls (Nat.le_of_ble_eq_true hj) rfl (fun ls2 hl2 => kk ls2 (hl2.less st_1_lv))) (k z hz)
theorem im_lstore_n (i pc : Nat) {j : Fin 4} {x : Int64} (L' : List (Option Value)) (h : (mi_tb mi)[i]? = some (pc, .lstore_n j, 1)) (hj : Nat.ble ((j : Nat) + 1 + 1) (mi_nL mi) = true) (hL' : st_2 L (j : Nat) (.long x) = L') (k : im_I mi fr lo G M0 f X (pc + 1) L' S M) : im_I mi fr lo G M0 f X pc L (.long x :: S) M := by
  subst hL'
  exact fun z hz => wp_step (L' := st_2 L (j : Nat) (.long x)) (S' := S) (fun hL hS => ⟨st_2_ok hL hS.hd, hS.tl⟩) (fun p l e R s m args below meth c H locs cells slots Q ls ad hx hb ho hown hts hg hS hls kk => lv_lstore_n hx hb (mi_at ho h) rfl hls (Nat.le_of_ble_eq_true hj) rfl (fun ls2 hl2 => kk ls2 (hl2.less st_2_lv))) (k z hz)
theorem im_lstore (i pc : Nat) {j : Nat} {x : Int64} (L' : List (Option Value)) (h : (mi_tb mi)[i]? = some (pc, .lstore j, 2)) (hj : Nat.ble (j + 1 + 1) (mi_nL mi) = true) (hL' : st_2 L j (.long x) = L') (k : im_I mi fr lo G M0 f X (pc + 2) L' S M) : im_I mi fr lo G M0 f X pc L (.long x :: S) M := by
  subst hL'
  exact fun z hz => wp_step (L' := st_2 L j (.long x)) (S' := S) (fun hL hS => ⟨st_2_ok hL hS.hd, hS.tl⟩) (fun p l e R s m args below meth c H locs cells slots Q ls ad hx hb ho hown hts hg hS hls kk => lv_lstore hx hb (mi_at ho h) hls (Nat.le_of_ble_eq_true hj) rfl (fun ls2 hl2 => kk ls2 (hl2.less st_2_lv))) (k z hz)
theorem im_dstore (i pc : Nat) {j : Nat} {x : UInt64} (L' : List (Option Value)) (h : (mi_tb mi)[i]? = some (pc, .dstore j, 2)) (hj : Nat.ble (j + 1 + 1) (mi_nL mi) = true) (hL' : st_2 L j (.double x) = L') (k : im_I mi fr lo G M0 f X (pc + 2) L' S M) : im_I mi fr lo G M0 f X pc L (.double x :: S) M := by
  subst hL'
  exact fun z hz => wp_step (L' := st_2 L j (.double x)) (S' := S) (fun hL hS => ⟨st_2_ok hL hS.hd, hS.tl⟩) (fun p l e R s m args below meth c H locs cells slots Q ls ad hx hb ho hown hts hg hS hls kk => lv_dstore hx hb (mi_at ho h) hls (Nat.le_of_ble_eq_true hj) rfl (fun ls2 hl2 => kk ls2 (hl2.less st_2_lv))) (k z hz)
theorem im_astore_n (i pc : Nat) {j : Fin 4} {x : Nat} (L' : List (Option Value)) (h : (mi_tb mi)[i]? = some (pc, .astore_n j, 1)) (hj : Nat.ble ((j : Nat) + 1) (mi_nL mi) = true) (hL' : st_1 L (j : Nat) (.ref x) = L') (k : im_I mi fr lo G M0 f X (pc + 1) L' S M) : im_I mi fr lo G M0 f X pc L (.ref x :: S) M := by
  subst hL'
  refine fun z hz => wp_step (L' := st_1 L (j : Nat) (.ref x)) (S' := S) (fun hL hS => ⟨st_1_ok hL hS.hd, hS.tl⟩) (fun p l e R s m args below meth c H locs cells slots Q ls ad hx hb ho hown hts hg hS hls kk => ?_) (k z hz)
  have q := fun (ls2 : Array Slot) (hl2 : lv_has ls2 (mi_nL mi) (((j : Nat), cv_v G ad (.ref x)) :: (lv_l G ad 0 L).filter (fun q => !(q.1 == (j : Nat)) && !(q.1 + 1 == (j : Nat) && q.2.category == 2)))) => kk ls2 (hl2.less st_1_lv)
  rw [List.map_cons]
  rcases cv_dich G ad x with e | ⟨a, e⟩
  · rw [e] at q
    rw [e]
    exact lv_astore_nN hx hb (mi_at ho h) rfl hls (Nat.le_of_ble_eq_true hj) rfl q
  · rw [e] at q
    rw [e]
    exact lv_astore_n hx hb (mi_at ho h) rfl hls (Nat.le_of_ble_eq_true hj) rfl q
theorem im_astore (i pc : Nat) {j : Nat} {x : Nat} (L' : List (Option Value)) (h : (mi_tb mi)[i]? = some (pc, .astore j, 2)) (hj : Nat.ble (j + 1) (mi_nL mi) = true) (hL' : st_1 L j (.ref x) = L') (k : im_I mi fr lo G M0 f X (pc + 2) L' S M) : im_I mi fr lo G M0 f X pc L (.ref x :: S) M := by
  subst hL'
  refine fun z hz => wp_step (L' := st_1 L j (.ref x)) (S' := S) (fun hL hS => ⟨st_1_ok hL hS.hd, hS.tl⟩) (fun p l e R s m args below meth c H locs cells slots Q ls ad hx hb ho hown hts hg hS hls kk => ?_) (k z hz)
  have q := fun (ls2 : Array Slot) (hl2 : lv_has ls2 (mi_nL mi) ((j, cv_v G ad (.ref x)) :: (lv_l G ad 0 L).filter (fun q => !(q.1 == j) && !(q.1 + 1 == j && q.2.category == 2)))) => kk ls2 (hl2.less st_1_lv)
  rw [List.map_cons]
  rcases cv_dich G ad x with e | ⟨a, e⟩
  · rw [e] at q
    rw [e]
    exact lv_astoreN hx hb (mi_at ho h) hls (Nat.le_of_ble_eq_true hj) rfl q
  · rw [e] at q
    rw [e]
    exact lv_astore hx hb (mi_at ho h) hls (Nat.le_of_ble_eq_true hj) rfl q
theorem im_iinc (i pc : Nat) {j : Nat} {n : Int} {x v : Int32} (L' : List (Option Value)) (h : (mi_tb mi)[i]? = some (pc, .iinc j n, 3)) (hl : L[j]? = some (some (.int x))) (hv : x + Int32.ofInt n = v) (hj : Nat.ble (j + 1) (mi_nL mi) = true) (hL' : st_1 L j (.int v) = L') (k : im_I mi fr lo G M0 f X (pc + 3) L' S M) : im_I mi fr lo G M0 f X pc L S M := by
  subst hL'
  refine fun z hz => wp_step (L' := st_1 L j (.int v)) (S' := S) (fun hL hS => ⟨st_1_ok hL trivial, hS⟩) (fun p l e R s m args below meth c H locs cells slots Q ls ad hx hb ho hown hts hg hS hls kk => ?_) (k z hz)
  obtain ⟨k0, hk0⟩ := List.getElem?_of_mem ((lv_l_iff (G := G) (ad := ad) (j, .int x) L 0).mpr ⟨j, .int x, hl, by rw [Nat.zero_add]; rfl⟩)
  exact lv_iinc hx hb (mi_at ho h) hls hk0 hv (Nat.le_of_ble_eq_true hj) rfl (fun ls2 hl2 => kk ls2 (hl2.less st_1_lv))
theorem im_iincL (i pc : Nat) {j : Nat} {n : Int} {x cst : Int32} {kf : Int32 → Option ρ} (L' : Int32 → List (Option Value)) (h : (mi_tb mi)[i]? = some (pc, .iinc j n, 3)) (hl : L[j]? = some (some (.int x))) (hv : Int32.ofInt n = cst) (hj : Nat.ble (j + 1) (mi_nL mi) = true) (hL' : ∀ v, st_1 L j (.int v) = L' v) (k : ∀ v : Int32, im_I mi fr lo G M0 f (kf v) (pc + 3) (L' v) S M) : im_I mi fr lo G M0 f ((some (x + cst)).bind kf) pc L S M :=
  im_iinc i pc (L' (x + cst)) h hl (by rw [hv]) hj (hL' _) (k _)
theorem im_if_eq (i pc tgt : Nat) {off : Int} {x : Int32} (h : (mi_tb mi)[i]? = some (pc, .ifCond .eq off, 3)) (ht : (pc : Int) + off = (tgt : Int)) (kt : im_I mi fr lo G M0 f X tgt L S M) (kf : im_I mi fr lo G M0 f Y (pc + 3) L S M) : im_I mi fr lo G M0 f (if x = 0 then X else Y) pc L (.int x :: S) M := by
  intro z hz
  by_cases q : x = 0
  · rw [if_pos q] at hz
    exact wp_step (L' := L) (S' := S) (fun hL hS => ⟨hL, hS.tl⟩) (fun p l e R s m args below meth c H locs cells slots Q ls ad hx hb ho hown hts hg hS hls kk => lv_if_eq hx hb (mi_at ho h) ht (fun _ => kk ls hls) (fun q2 => absurd q q2)) (kt z hz)
  · rw [if_neg q] at hz
    exact wp_step (L' := L) (S' := S) (fun hL hS => ⟨hL, hS.tl⟩) (fun p l e R s m args below meth c H locs cells slots Q ls ad hx hb ho hown hts hg hS hls kk => lv_if_eq hx hb (mi_at ho h) ht (fun q2 => absurd q2 q) (fun _ => kk ls hls)) (kf z hz)
theorem im_if_ne (i pc tgt : Nat) {off : Int} {x : Int32} (h : (mi_tb mi)[i]? = some (pc, .ifCond .ne off, 3)) (ht : (pc : Int) + off = (tgt : Int)) (kt : im_I mi fr lo G M0 f X tgt L S M) (kf : im_I mi fr lo G M0 f Y (pc + 3) L S M) : im_I mi fr lo G M0 f (if x = 0 then Y else X) pc L (.int x :: S) M := by
  intro z hz
  by_cases q : x = 0
  · rw [if_pos q] at hz
    exact wp_step (L' := L) (S' := S) (fun hL hS => ⟨hL, hS.tl⟩) (fun p l e R s m args below meth c H locs cells slots Q ls ad hx hb ho hown hts hg hS hls kk => lv_if_ne hx hb (mi_at ho h) ht (fun q2 => absurd q q2) (fun _ => kk ls hls)) (kf z hz)
  · rw [if_neg q] at hz
    exact wp_step (L' := L) (S' := S) (fun hL hS => ⟨hL, hS.tl⟩) (fun p l e R s m args below meth c H locs cells slots Q ls ad hx hb ho hown hts hg hS hls kk => lv_if_ne hx hb (mi_at ho h) ht (fun _ => kk ls hls) (fun q2 => absurd q2 q)) (kt z hz)
theorem im_if_lt (i pc tgt : Nat) {off : Int} {x : Int32} (h : (mi_tb mi)[i]? = some (pc, .ifCond .lt off, 3)) (ht : (pc : Int) + off = (tgt : Int)) (kt : im_I mi fr lo G M0 f X tgt L S M) (kf : im_I mi fr lo G M0 f Y (pc + 3) L S M) : im_I mi fr lo G M0 f (if x < 0 then X else Y) pc L (.int x :: S) M := by
  intro z hz
  by_cases q : x < 0
  · rw [if_pos q] at hz
    exact wp_step (L' := L) (S' := S) (fun hL hS => ⟨hL, hS.tl⟩) (fun p l e R s m args below meth c H locs cells slots Q ls ad hx hb ho hown hts hg hS hls kk => lv_if_lt hx hb (mi_at ho h) ht (fun _ => kk ls hls) (fun q2 => absurd q q2)) (kt z hz)
  · rw [if_neg q] at hz
    exact wp_step (L' := L) (S' := S) (fun hL hS => ⟨hL, hS.tl⟩) (fun p l e R s m args below meth c H locs cells slots Q ls ad hx hb ho hown hts hg hS hls kk => lv_if_lt hx hb (mi_at ho h) ht (fun q2 => absurd q2 q) (fun _ => kk ls hls)) (kf z hz)
theorem im_if_ge (i pc tgt : Nat) {off : Int} {x : Int32} (h : (mi_tb mi)[i]? = some (pc, .ifCond .ge off, 3)) (ht : (pc : Int) + off = (tgt : Int)) (kt : im_I mi fr lo G M0 f X tgt L S M) (kf : im_I mi fr lo G M0 f Y (pc + 3) L S M) : im_I mi fr lo G M0 f (if 0 ≤ x then X else Y) pc L (.int x :: S) M := by
  intro z hz
  by_cases q : 0 ≤ x
  · rw [if_pos q] at hz
    exact wp_step (L' := L) (S' := S) (fun hL hS => ⟨hL, hS.tl⟩) (fun p l e R s m args below meth c H locs cells slots Q ls ad hx hb ho hown hts hg hS hls kk => lv_if_ge hx hb (mi_at ho h) ht (fun _ => kk ls hls) (fun q2 => absurd q q2)) (kt z hz)
  · rw [if_neg q] at hz
    exact wp_step (L' := L) (S' := S) (fun hL hS => ⟨hL, hS.tl⟩) (fun p l e R s m args below meth c H locs cells slots Q ls ad hx hb ho hown hts hg hS hls kk => lv_if_ge hx hb (mi_at ho h) ht (fun q2 => absurd q2 q) (fun _ => kk ls hls)) (kf z hz)
theorem im_if_gt (i pc tgt : Nat) {off : Int} {x : Int32} (h : (mi_tb mi)[i]? = some (pc, .ifCond .gt off, 3)) (ht : (pc : Int) + off = (tgt : Int)) (kt : im_I mi fr lo G M0 f X tgt L S M) (kf : im_I mi fr lo G M0 f Y (pc + 3) L S M) : im_I mi fr lo G M0 f (if 0 < x then X else Y) pc L (.int x :: S) M := by
  intro z hz
  by_cases q : 0 < x
  · rw [if_pos q] at hz
    exact wp_step (L' := L) (S' := S) (fun hL hS => ⟨hL, hS.tl⟩) (fun p l e R s m args below meth c H locs cells slots Q ls ad hx hb ho hown hts hg hS hls kk => lv_if_gt hx hb (mi_at ho h) ht (fun _ => kk ls hls) (fun q2 => absurd q q2)) (kt z hz)
  · rw [if_neg q] at hz
    exact wp_step (L' := L) (S' := S) (fun hL hS => ⟨hL, hS.tl⟩) (fun p l e R s m args below meth c H locs cells slots Q ls ad hx hb ho hown hts hg hS hls kk => lv_if_gt hx hb (mi_at ho h) ht (fun q2 => absurd q2 q) (fun _ => kk ls hls)) (kf z hz)
theorem im_if_le (i pc tgt : Nat) {off : Int} {x : Int32} (h : (mi_tb mi)[i]? = some (pc, .ifCond .le off, 3)) (ht : (pc : Int) + off = (tgt : Int)) (kt : im_I mi fr lo G M0 f X tgt L S M) (kf : im_I mi fr lo G M0 f Y (pc + 3) L S M) : im_I mi fr lo G M0 f (if x ≤ 0 then X else Y) pc L (.int x :: S) M := by
  intro z hz
  by_cases q : x ≤ 0
  · rw [if_pos q] at hz
    exact wp_step (L' := L) (S' := S) (fun hL hS => ⟨hL, hS.tl⟩) (fun p l e R s m args below meth c H locs cells slots Q ls ad hx hb ho hown hts hg hS hls kk => lv_if_le hx hb (mi_at ho h) ht (fun _ => kk ls hls) (fun q2 => absurd q q2)) (kt z hz)
  · rw [if_neg q] at hz
    exact wp_step (L' := L) (S' := S) (fun hL hS => ⟨hL, hS.tl⟩) (fun p l e R s m args below meth c H locs cells slots Q ls ad hx hb ho hown hts hg hS hls kk => lv_if_le hx hb (mi_at ho h) ht (fun q2 => absurd q2 q) (fun _ => kk ls hls)) (kf z hz)
theorem im_ic_eq (i pc tgt : Nat) {off : Int} {x y : Int32} (h : (mi_tb mi)[i]? = some (pc, .if_icmp .eq off, 3)) (ht : (pc : Int) + off = (tgt : Int)) (kt : im_I mi fr lo G M0 f X tgt L S M) (kf : im_I mi fr lo G M0 f Y (pc + 3) L S M) : im_I mi fr lo G M0 f (if x = y then X else Y) pc L (.int y :: .int x :: S) M := by
  intro z hz
  by_cases q : x = y
  · rw [if_pos q] at hz
    exact wp_step (L' := L) (S' := S) (fun hL hS => ⟨hL, hS.tl.tl⟩) (fun p l e R s m args below meth c H locs cells slots Q ls ad hx hb ho hown hts hg hS hls kk => lv_icmp_eq hx hb (mi_at ho h) ht (fun _ => kk ls hls) (fun q2 => absurd q q2)) (kt z hz)
  · rw [if_neg q] at hz
    exact wp_step (L' := L) (S' := S) (fun hL hS => ⟨hL, hS.tl.tl⟩) (fun p l e R s m args below meth c H locs cells slots Q ls ad hx hb ho hown hts hg hS hls kk => lv_icmp_eq hx hb (mi_at ho h) ht (fun q2 => absurd q2 q) (fun _ => kk ls hls)) (kf z hz)
theorem im_ic_ne (i pc tgt : Nat) {off : Int} {x y : Int32} (h : (mi_tb mi)[i]? = some (pc, .if_icmp .ne off, 3)) (ht : (pc : Int) + off = (tgt : Int)) (kt : im_I mi fr lo G M0 f X tgt L S M) (kf : im_I mi fr lo G M0 f Y (pc + 3) L S M) : im_I mi fr lo G M0 f (if x = y then Y else X) pc L (.int y :: .int x :: S) M := by
  intro z hz
  by_cases q : x = y
  · rw [if_pos q] at hz
    exact wp_step (L' := L) (S' := S) (fun hL hS => ⟨hL, hS.tl.tl⟩) (fun p l e R s m args below meth c H locs cells slots Q ls ad hx hb ho hown hts hg hS hls kk => lv_icmp_ne hx hb (mi_at ho h) ht (fun q2 => absurd q q2) (fun _ => kk ls hls)) (kf z hz)
  · rw [if_neg q] at hz
    exact wp_step (L' := L) (S' := S) (fun hL hS => ⟨hL, hS.tl.tl⟩) (fun p l e R s m args below meth c H locs cells slots Q ls ad hx hb ho hown hts hg hS hls kk => lv_icmp_ne hx hb (mi_at ho h) ht (fun _ => kk ls hls) (fun q2 => absurd q2 q)) (kt z hz)
theorem im_ic_lt (i pc tgt : Nat) {off : Int} {x y : Int32} (h : (mi_tb mi)[i]? = some (pc, .if_icmp .lt off, 3)) (ht : (pc : Int) + off = (tgt : Int)) (kt : im_I mi fr lo G M0 f X tgt L S M) (kf : im_I mi fr lo G M0 f Y (pc + 3) L S M) : im_I mi fr lo G M0 f (if x < y then X else Y) pc L (.int y :: .int x :: S) M := by
  intro z hz
  by_cases q : x < y
  · rw [if_pos q] at hz
    exact wp_step (L' := L) (S' := S) (fun hL hS => ⟨hL, hS.tl.tl⟩) (fun p l e R s m args below meth c H locs cells slots Q ls ad hx hb ho hown hts hg hS hls kk => lv_icmp_lt hx hb (mi_at ho h) ht (fun _ => kk ls hls) (fun q2 => absurd q q2)) (kt z hz)
  · rw [if_neg q] at hz
    exact wp_step (L' := L) (S' := S) (fun hL hS => ⟨hL, hS.tl.tl⟩) (fun p l e R s m args below meth c H locs cells slots Q ls ad hx hb ho hown hts hg hS hls kk => lv_icmp_lt hx hb (mi_at ho h) ht (fun q2 => absurd q2 q) (fun _ => kk ls hls)) (kf z hz)
theorem im_ic_ge (i pc tgt : Nat) {off : Int} {x y : Int32} (h : (mi_tb mi)[i]? = some (pc, .if_icmp .ge off, 3)) (ht : (pc : Int) + off = (tgt : Int)) (kt : im_I mi fr lo G M0 f X tgt L S M) (kf : im_I mi fr lo G M0 f Y (pc + 3) L S M) : im_I mi fr lo G M0 f (if y ≤ x then X else Y) pc L (.int y :: .int x :: S) M := by
  intro z hz
  by_cases q : y ≤ x
  · rw [if_pos q] at hz
    exact wp_step (L' := L) (S' := S) (fun hL hS => ⟨hL, hS.tl.tl⟩) (fun p l e R s m args below meth c H locs cells slots Q ls ad hx hb ho hown hts hg hS hls kk => lv_icmp_ge hx hb (mi_at ho h) ht (fun _ => kk ls hls) (fun q2 => absurd q q2)) (kt z hz)
  · rw [if_neg q] at hz
    exact wp_step (L' := L) (S' := S) (fun hL hS => ⟨hL, hS.tl.tl⟩) (fun p l e R s m args below meth c H locs cells slots Q ls ad hx hb ho hown hts hg hS hls kk => lv_icmp_ge hx hb (mi_at ho h) ht (fun q2 => absurd q2 q) (fun _ => kk ls hls)) (kf z hz)
theorem im_ic_gt (i pc tgt : Nat) {off : Int} {x y : Int32} (h : (mi_tb mi)[i]? = some (pc, .if_icmp .gt off, 3)) (ht : (pc : Int) + off = (tgt : Int)) (kt : im_I mi fr lo G M0 f X tgt L S M) (kf : im_I mi fr lo G M0 f Y (pc + 3) L S M) : im_I mi fr lo G M0 f (if y < x then X else Y) pc L (.int y :: .int x :: S) M := by
  intro z hz
  by_cases q : y < x
  · rw [if_pos q] at hz
    exact wp_step (L' := L) (S' := S) (fun hL hS => ⟨hL, hS.tl.tl⟩) (fun p l e R s m args below meth c H locs cells slots Q ls ad hx hb ho hown hts hg hS hls kk => lv_icmp_gt hx hb (mi_at ho h) ht (fun _ => kk ls hls) (fun q2 => absurd q q2)) (kt z hz)
  · rw [if_neg q] at hz
    exact wp_step (L' := L) (S' := S) (fun hL hS => ⟨hL, hS.tl.tl⟩) (fun p l e R s m args below meth c H locs cells slots Q ls ad hx hb ho hown hts hg hS hls kk => lv_icmp_gt hx hb (mi_at ho h) ht (fun q2 => absurd q2 q) (fun _ => kk ls hls)) (kf z hz)
theorem im_ic_le (i pc tgt : Nat) {off : Int} {x y : Int32} (h : (mi_tb mi)[i]? = some (pc, .if_icmp .le off, 3)) (ht : (pc : Int) + off = (tgt : Int)) (kt : im_I mi fr lo G M0 f X tgt L S M) (kf : im_I mi fr lo G M0 f Y (pc + 3) L S M) : im_I mi fr lo G M0 f (if x ≤ y then X else Y) pc L (.int y :: .int x :: S) M := by
  intro z hz
  by_cases q : x ≤ y
  · rw [if_pos q] at hz
    exact wp_step (L' := L) (S' := S) (fun hL hS => ⟨hL, hS.tl.tl⟩) (fun p l e R s m args below meth c H locs cells slots Q ls ad hx hb ho hown hts hg hS hls kk => lv_icmp_le hx hb (mi_at ho h) ht (fun _ => kk ls hls) (fun q2 => absurd q q2)) (kt z hz)
  · rw [if_neg q] at hz
    exact wp_step (L' := L) (S' := S) (fun hL hS => ⟨hL, hS.tl.tl⟩) (fun p l e R s m args below meth c H locs cells slots Q ls ad hx hb ho hown hts hg hS hls kk => lv_icmp_le hx hb (mi_at ho h) ht (fun q2 => absurd q2 q) (fun _ => kk ls hls)) (kf z hz)
theorem im_goto (i pc tgt : Nat) {off : Int} (h : (mi_tb mi)[i]? = some (pc, .goto off, 3)) (ht : (pc : Int) + off = (tgt : Int)) (k : im_I mi fr lo G M0 f X tgt L S M) : im_I mi fr lo G M0 f X pc L S M :=
  fun z hz => wp_step (L' := L) (S' := S) (fun hL hS => ⟨hL, hS⟩) (fun p l e R s m args below meth c H locs cells slots Q ls ad hx hb ho hown hts hg hS hls kk => lv_goto hx hb (mi_at ho h) ht (kk ls hls)) (k z hz)
theorem im_lookup (i pc tgt : Nat) {dflt off : Int} {ps : Array (Int × Int)} {len : Nat} {x : Int32} (h : (mi_tb mi)[i]? = some (pc, .lookupswitch dflt ps, len)) (hp : (ps.toList.zip (ps.toList.drop 1)).all (fun (a, next) => a.1 < next.1) = true) (ho' : Op.lookupswitch.offset ps.toList dflt x.toInt = off) (ht : (pc : Int) + off = (tgt : Int)) (k : im_I mi fr lo G M0 f X tgt L S M) : im_I mi fr lo G M0 f X pc L (.int x :: S) M :=
  fun z hz => wp_step (L' := L) (S' := S) (fun hL hS => ⟨hL, hS.tl⟩) (fun p l e R s m args below meth c H locs cells slots Q ls ad hx hb ho hown hts hg hS hls kk => lv_lookup hx hb (mi_at ho h) hp ho' ht (kk ls hls)) (k z hz)
theorem im_tabOut (i pc tgt : Nat) {dflt lo' hi : Int} {offs : Array Int} {len : Nat} {x : Int32} (h : (mi_tb mi)[i]? = some (pc, .tableswitch dflt lo' hi offs, len)) (hx' : x.toInt < lo' ∨ hi < x.toInt) (ht : (pc : Int) + dflt = (tgt : Int)) (k : im_I mi fr lo G M0 f X tgt L S M) : im_I mi fr lo G M0 f X pc L (.int x :: S) M :=
  fun z hz => wp_step (L' := L) (S' := S) (fun hL hS => ⟨hL, hS.tl⟩) (fun p l e R s m args below meth c H locs cells slots Q ls ad hx hb ho hown hts hg hS hls kk => lv_tableOut hx hb (mi_at ho h) hx' ht (kk ls hls)) (k z hz)
theorem im_tabIn (i pc tgt : Nat) {dflt lo' hi off : Int} {offs : Array Int} {len : Nat} {x : Int32} (h : (mi_tb mi)[i]? = some (pc, .tableswitch dflt lo' hi offs, len)) (h1 : ¬ x.toInt < lo') (h2 : ¬ hi < x.toInt) (ho' : offs[(x.toInt - lo').toNat]? = some off) (ht : (pc : Int) + off = (tgt : Int)) (k : im_I mi fr lo G M0 f X tgt L S M) : im_I mi fr lo G M0 f X pc L (.int x :: S) M :=
  fun z hz => wp_step (L' := L) (S' := S) (fun hL hS => ⟨hL, hS.tl⟩) (fun p l e R s m args below meth c H locs cells slots Q ls ad hx hb ho hown hts hg hS hls kk => lv_tableIn hx hb (mi_at ho h) h1 h2 ho' ht (kk ls hls)) (k z hz)
theorem im_ifnonnull (i pc tgt : Nat) {off : Int} {x : Nat} (h : (mi_tb mi)[i]? = some (pc, .ifnonnull off, 3)) (ht : (pc : Int) + off = (tgt : Int)) (kt : im_I mi fr lo G M0 f X tgt L S M) (kf : im_I mi fr lo G M0 f Y (pc + 3) L S M) : im_I mi fr lo G M0 f (if x = 0 then Y else X) pc L (.ref x :: S) M := by
  intro z hz
  by_cases q : x = 0
  · rw [if_pos q] at hz
    refine wp_step (L' := L) (S' := S) (fun hL hS => ⟨hL, hS.tl⟩) (fun p l e R s m args below meth c H locs cells slots Q ls ad hx hb ho hown hts hg hS hls kk => ?_) (kf z hz)
    have e : cv_v G ad (.ref x) = .null := by
      show va_rf (cv_q G ad x) = .null
      unfold cv_q
      rw [if_pos q]
      rfl
    rw [List.map_cons, e]
    exact lv_ifnonnullN hx hb (mi_at ho h) (kk ls hls)
  · rw [if_neg q] at hz
    refine wp_step (L' := L) (S' := S) (fun hL hS => ⟨hL, hS.tl⟩) (fun p l e R s m args below meth c H locs cells slots Q ls ad hx hb ho hown hts hg hS hls kk => ?_) (kt z hz)
    have e : ∃ a, cv_v G ad (.ref x) = .ref a := by
      show ∃ a, va_rf (cv_q G ad x) = .ref a
      unfold cv_q
      rw [if_neg q]
      split
      · exact ⟨_, rfl⟩
      · exact ⟨_, rfl⟩
    obtain ⟨a, e⟩ := e
    rw [List.map_cons, e]
    exact lv_ifnonnull hx hb (mi_at ho h) ht (kk ls hls)
/-! guarded arithmetic -/
theorem im_idiv (i pc : Nat) {x y : Int32} {kf : Int32 → Option ρ} (h : (mi_tb mi)[i]? = some (pc, .idiv, 1)) (k : ∀ v : Int32, im_I mi fr lo G M0 f (kf v) (pc + 1) L (.int v :: S) M) : im_I mi fr lo G M0 f ((io_divG x y).bind kf) pc L (.int y :: .int x :: S) M := by
  intro z hz
  unfold io_divG at hz
  by_cases q : y = 0
  · rw [if_pos q] at hz; cases hz
  · rw [if_neg q] at hz
    exact wp_step (L' := L) (S' := .int (x / y) :: S) (fun hL hS => ⟨hL, ok_S.cons trivial hS.tl.tl⟩) (fun p l e R s m args below meth c H locs cells slots Q ls ad hx hb ho hown hts hg hS hls kk => lv_idiv hx hb (mi_at ho h) q (kk ls hls)) (k _ z hz)
theorem im_irem (i pc : Nat) {x y : Int32} {kf : Int32 → Option ρ} (h : (mi_tb mi)[i]? = some (pc, .irem, 1)) (k : ∀ v : Int32, im_I mi fr lo G M0 f (kf v) (pc + 1) L (.int v :: S) M) : im_I mi fr lo G M0 f ((io_remG x y).bind kf) pc L (.int y :: .int x :: S) M := by
  intro z hz
  unfold io_remG at hz
  by_cases q : y = 0
  · rw [if_pos q] at hz; cases hz
  · rw [if_neg q] at hz
    exact wp_step (L' := L) (S' := .int (io_rem x y) :: S) (fun hL hS => ⟨hL, ok_S.cons trivial hS.tl.tl⟩) (fun p l e R s m args below meth c H locs cells slots Q ls ad hx hb ho hown hts hg hS hls kk => lv_irem hx hb (mi_at ho h) q (kk ls hls)) (k _ z hz)
theorem im_fdiv (i pc : Nat) {x y : UInt32} {kf : UInt32 → Option ρ} (h : (mi_tb mi)[i]? = some (pc, .fdiv, 1)) (k : ∀ v : UInt32, im_I mi fr lo G M0 f (kf v) (pc + 1) L (.float v :: S) M) : im_I mi fr lo G M0 f ((fo_div x y).bind kf) pc L (.float y :: .float x :: S) M := by
  intro z hz
  unfold fo_div at hz
  by_cases q : (FP.fdiv x y) &&& 0x7fffffff ≤ 0x7f800000
  · rw [if_pos q] at hz
    exact wp_step (L' := L) (S' := .float (FP.fdiv x y) :: S) (fun hL hS => ⟨hL, ok_S.cons trivial hS.tl.tl⟩) (fun p l e R s m args below meth c H locs cells slots Q ls ad hx hb ho hown hts hg hS hls kk => lv_fdiv hx hb (mi_at ho h) q (kk ls hls)) (k _ z hz)
  · rw [if_neg q] at hz; cases hz
theorem im_ddiv (i pc : Nat) {x y : UInt64} {kf : UInt64 → Option ρ} (h : (mi_tb mi)[i]? = some (pc, .ddiv, 1)) (k : ∀ v : UInt64, im_I mi fr lo G M0 f (kf v) (pc + 1) L (.double v :: S) M) : im_I mi fr lo G M0 f ((do_div x y).bind kf) pc L (.double y :: .double x :: S) M := by
  intro z hz
  unfold do_div at hz
  by_cases q : (FP.ddiv x y) &&& 0x7fffffffffffffff ≤ 0x7ff0000000000000
  · rw [if_pos q] at hz
    exact wp_step (L' := L) (S' := .double (FP.ddiv x y) :: S) (fun hL hS => ⟨hL, ok_S.cons trivial hS.tl.tl⟩) (fun p l e R s m args below meth c H locs cells slots Q ls ad hx hb ho hown hts hg hS hls kk => lv_ddiv hx hb (mi_at ho h) q (kk ls hls)) (k _ z hz)
  · rw [if_neg q] at hz; cases hz
theorem im_f2d (i pc : Nat) {x : UInt32} {kf : UInt64 → Option ρ} (h : (mi_tb mi)[i]? = some (pc, .f2d, 1)) (k : ∀ v : UInt64, im_I mi fr lo G M0 f (kf v) (pc + 1) L (.double v :: S) M) : im_I mi fr lo G M0 f ((do_f2d x).bind kf) pc L (.float x :: S) M := by
  intro z hz
  unfold do_f2d at hz
  by_cases q : (FP.f2d x) &&& 0x7fffffffffffffff ≤ 0x7ff0000000000000
  · rw [if_pos q] at hz
    exact wp_step (L' := L) (S' := .double (FP.f2d x) :: S) (fun hL hS => ⟨hL, ok_S.cons trivial hS.tl⟩) (fun p l e R s m args below meth c H locs cells slots Q ls ad hx hb ho hown hts hg hS hls kk => lv_f2d hx hb (mi_at ho h) q (kk ls hls)) (k _ z hz)
  · rw [if_neg q] at hz; cases hz
end IM
