/-! ===== the class: actions ===== -/
def zy_ed (s : zy_T) (P : zp_T) : zy_T := (P, zy_u (zy_kept s), zy_n s, zy_t s, zy_c s, zy_v s)
def zy_Of (Es : List String) (X : Option ((Int32 ⊕ String) × mm_T)) (M : mm_T) (f : (Nat × Int32) × zy_T) : Prop := zy_O X M (zr_c Es f.1) f.2
theorem zy_rq {Y : Option (Option String)} {M : mm_T} {s : zy_T} {X : Option ((Int32 ⊕ String) × mm_T)} {c : Prop} [Decidable c] {Es : List String} {E : String} {k : Nat} {f : (Nat × Int32) × zy_T} (h : zy_C M s) (hY : Y = some (if c then none else some E)) (hE : zr_c Es (k, 0) = .inr E) (hX : c → zy_Of Es X M f) : zy_Of Es (rq_X Y M X) M (if c then f else ((k, 0), s)) := by
  unfold rq_X
  rw [hY]
  by_cases q : c
  · rw [if_pos q, if_pos q]
    exact hX q
  · rw [if_neg q, if_neg q]
    exact zy_thrown h hE
def zv_insertSet (s : zy_T) (b p t c : Int32) : (Nat × Int32) × zy_T :=
  if zi_A (zp_nb (zy_P s)) b then (if zi_A (zp_st (zy_P s) (zi_n b + 1) - zp_st (zy_P s) (zi_n b) + 1) p then (if zi_A 8 t then (if zi_A 1000 c then (if zp_ni (zy_P s) < 40 then
    ((0, nI (zp_st (zy_P s) (zi_n b) + zi_n p)), zy_ed s (zp_ins (zy_P s) (zi_n b) (zp_st (zy_P s) (zi_n b) + zi_n p) (0, zi_n t, zi_n c, 0, 0)))
    else ((3, 0), s)) else ((2, 0), s)) else ((2, 0), s)) else ((2, 0), s)) else ((1, 0), s)
def zv_insertCalc (s : zy_T) (b p t l c r : Int32) : (Nat × Int32) × zy_T :=
  if zi_A (zp_nb (zy_P s)) b then (if zi_A (zp_st (zy_P s) (zi_n b + 1) - zp_st (zy_P s) (zi_n b) + 1) p then (if zi_A 8 t then (if zi_A 8 l then (if zi_A 3 c then (if zi_A 8 r then (if zp_ni (zy_P s) < 40 then
    ((0, nI (zp_st (zy_P s) (zi_n b) + zi_n p)), zy_ed s (zp_ins (zy_P s) (zi_n b) (zp_st (zy_P s) (zi_n b) + zi_n p) (2, zi_n t, zi_n l, zi_n c, zi_n r)))
    else ((3, 0), s)) else ((2, 0), s)) else ((2, 0), s)) else ((2, 0), s)) else ((2, 0), s)) else ((2, 0), s)) else ((1, 0), s)
def zv_removeInstruction (s : zy_T) (i : Int32) : (Nat × Int32) × zy_T :=
  if zi_A (zp_ni (zy_P s)) i then ((0, nI (zp_ni (zy_P s) - 1)), zy_ed s (zp_rm (zy_P s) (zi_n i))) else ((1, 0), s)
def zp_rc (P : zp_T) : Nat := fb_ct (fun b => zp_nr P 11 b) (zp_nb P)
def zv_setGoto (s : zy_T) (b y : Int32) : (Nat × Int32) × zy_T :=
  if zi_A (zp_nb (zy_P s)) b then (if zi_A (zp_nb (zy_P s)) y then ((0, nI (zp_rc (zp_setx (zy_P s) (zi_n b) (1, 0, zi_n y, 0)))), zy_ed s (zp_setx (zy_P s) (zi_n b) (1, 0, zi_n y, 0))) else ((1, 0), s)) else ((1, 0), s)
def zv_setBranch (s : zy_T) (b v y z : Int32) : (Nat × Int32) × zy_T :=
  if zi_A (zp_nb (zy_P s)) b then (if zi_A (zp_nb (zy_P s)) y then (if zi_A (zp_nb (zy_P s)) z then (if zi_A 8 v then ((0, nI (zp_rc (zp_setx (zy_P s) (zi_n b) (2, zi_n v, zi_n y, zi_n z)))), zy_ed s (zp_setx (zy_P s) (zi_n b) (2, zi_n v, zi_n y, zi_n z))) else ((2, 0), s)) else ((1, 0), s)) else ((1, 0), s)) else ((1, 0), s)
section ZYB1
variable {M : mm_T} {s : zy_T}
theorem zy_reqP (h : zy_C M s) {b : Nat} (hb : b < zp_nb (zy_P s)) (p : Int32) : ff_D_requirePosition 1 (nI b) p M = some (if zi_A (zp_st (zy_P s) (b + 1) - zp_st (zy_P s) b + 1) p then none else some "java/lang/IllegalArgumentException") := by
  have hV := h.2.2.1.2.2
  have hse := zp_st_le hV (b := b + 1) (by omega)
  have hni := hV.2.2.1
  unfold ff_D_requirePosition zi_A
  rw [zq_gd (zc_e1 h.2), zq_jp]
  by_cases c : p < 0
  · rw [if_pos c, if_neg (fun q => by have := zi_neg.mp c; omega)]
  · rw [if_neg c, zg_R (zc_e1 h.2), Option.bind_some, h.2.1.2.1, zr_sizeOf h.2.2.1.1 h.2.2.1.2.1 hV hb, Option.bind_some]
    have c0 : 0 ≤ p.toInt := by rw [zi_neg] at c; omega
    by_cases d : p ≤ nI (zp_st (zy_P s) (b + 1) - zp_st (zy_P s) b)
    · have := (zi_len (by omega) c).mp d
      rw [if_pos d, if_pos ⟨c0, by omega⟩]
    · rw [if_neg d, if_neg (fun q => d ((zi_len (by omega) c).mpr (by omega)))]
theorem zy_reqC (a : Int32) (M : mm_T) : ff_D_requireConstant a M = some (if zi_A 1000 a then none else some "java/lang/IllegalArgumentException") := by
  unfold ff_D_requireConstant zi_A
  rw [zq_jp]
  by_cases c : a < 0
  · rw [if_pos c, if_neg (fun q => by have := zi_neg.mp c; omega)]
  · rw [if_neg c]
    have c0 : 0 ≤ a.toInt := by rw [zi_neg] at c; omega
    by_cases d : a ≤ (999 : Int32)
    · have := (zi_len (n := 999) (by omega) c).mp d
      rw [if_pos d, if_pos ⟨c0, by omega⟩]
    · rw [if_neg d, if_neg (fun q => d ((zi_len (n := 999) (by omega) c).mpr (by omega)))]
theorem zi_3 {a : Int32} : zi_A 3 a ↔ (a = 0 ∨ a = 1 ∨ a = 2) := by
  constructor
  · intro h
    obtain ⟨h1, h2⟩ := zi_An h
    generalize zi_n a = n at h1 h2
    subst h2
    rcases (show n = 0 ∨ n = 1 ∨ n = 2 by omega) with z | z | z
    · left; rw [z]; rfl
    · right; left; rw [z]; rfl
    · right; right; rw [z]; rfl
  · rintro (z | z | z) <;> subst z <;> decide
theorem zy_reqO (a : Int32) (M : mm_T) : ff_D_requireOperator a M = some (if zi_A 3 a then none else some "java/lang/IllegalArgumentException") := by
  unfold ff_D_requireOperator
  by_cases c0 : a = 0
  · rw [if_pos c0, if_pos (zi_3.mpr (Or.inl c0))]
  · rw [if_neg c0]
    by_cases c1 : a = 1
    · rw [if_pos c1, if_pos (zi_3.mpr (Or.inr (Or.inl c1)))]
    · rw [if_neg c1]
      by_cases c2 : a = 2
      · rw [if_pos c2, if_pos (zi_3.mpr (Or.inr (Or.inr c2)))]
      · rw [if_neg c2, if_neg (fun q => by rcases zi_3.mp q with z | z | z <;> contradiction)]
theorem zy_reqF (h : zy_C M s) : ff_D_requireRoom 1 M = some (if zp_ni (zy_P s) < 40 then none else some "java/lang/IllegalStateException") := by
  have hV := h.2.2.1.2.2
  have hni := hV.2.2.1
  have hP := h.2.2.1.1
  unfold ff_D_requireRoom ff_P_isFull
  rw [zq_gd (zc_e1 h.2), zg_R (zc_e1 h.2), Option.bind_some, h.2.1.2.1, zq_gd (by rw [hP.1]), zr_instr hP h.2.2.1.2.1, Option.bind_some]
  by_cases c : zp_ni (zy_P s) < 40
  · rw [if_pos (show nI (zp_ni (zy_P s)) < (40 : Int32) from nI_lt (b := 40) c (by omega)), if_pos c, Option.bind_some, if_pos rfl]
  · rw [if_neg (show ¬ nI (zp_ni (zy_P s)) < (40 : Int32) from nI_nlt (b := 40) (by omega) (by omega)), if_neg c, Option.bind_some, if_neg (by decide)]
/-- behind the keeping: the program is changed, the analyses forgotten -/
theorem zy_act {M1 M2 : mm_T} (h1 : zy_C M1 (zy_kept s)) {P' : zp_T} (f : zf_F M1 M2 (zo_A 45)) (hH : zo_H M2 45 P') (hV : zp_V P') : (∃ M3, ff_D_forgetAnalyses 1 M2 = some M3 ∧ zy_Y M1 M3 zy_A 0 0 ∧ zy_C M3 (zy_ed s P')) ∧ (mm_k M2 1).1 = 10 := by
  have B2 : zy_B M2 (zy_ed s P') := h1.1.keepX (zu_F f) (fun a _ z => by unfold zo_A at z; omega)
  have Z2 := h1.2.z.edit f hH hV
  obtain ⟨M3, e3, y3, q3⟩ := zy_fresh (s' := zy_ed s P') B2 Z2
  refine ⟨⟨M3, e3, zy_Ytr (zy_Ywk (zy_YX (zu_F f)) (Nat.le_refl _) (Nat.le_refl _) (fun a _ z => by unfold zo_A at z; unfold zy_A; omega)) y3, q3⟩, by rw [Z2.1.1]⟩
theorem zy_Ah_A {M M' : mm_T} {k u : Nat} (h : zy_Y M M' zy_Ah k u) : zy_Y M M' zy_A k u := zy_Ywk h (Nat.le_refl _) (Nat.le_refl _) (fun a _ z => by unfold zy_Ah at z; unfold zy_A; omega)
theorem zy_insW (h : zy_C M s) (hB : mm_n M + 8 < st_B) {b p : Nat} {q : Nat × Nat × Nat × Nat × Nat} (hb : b < zp_nb (zy_P s)) (hp : p ≤ zp_st (zy_P s) (b + 1) - zp_st (zy_P s) b) (hn : zp_ni (zy_P s) < 40) (hq : zp_iok q) : ∃ M', ff_D_insertWord 1 (nI b) (nI p) (nI (zp_W q)) M = some (nI (zp_st (zy_P s) b + p), M') ∧ zy_Y M M' zy_A 100 2000 ∧ zy_C M' (zy_ed s (zp_ins (zy_P s) b (zp_st (zy_P s) b + p) q)) := by
  have hV := h.2.2.1.2.2
  have hms := hV.2.2.2.2.1 b hb
  have hse := zp_st_le hV (b := b + 1) (by omega)
  obtain ⟨M1, e1, y1, C1⟩ := zy_keep h hB
  obtain ⟨M2, e2, f2, g2⟩ := zo_insert (q := q) C1.2.2.1.1 C1.2.2.1.2.1 hV hb (show zp_st (zy_P s) b + p ≤ zp_ni (zy_P s) by omega) hn
  obtain ⟨⟨M3, e3, y3, C3⟩, k2⟩ := zy_act C1 f2 g2 (zp_ins_V hV hb (by omega) (by omega) hn hq)
  unfold ff_D_insertWord
  rw [zq_gd (zc_e1 h.2), zg_R (zc_e1 h.2), Option.bind_some, h.2.1.2.1, zr_startOf h.2.2.1.1 h.2.2.1.2.1 hV (by omega), Option.bind_some, Option.bind_some, zg_R (zc_e1 h.2), Option.bind_some, h.2.1.2.2.2.2.2.1, Option.bind_some, e1, Option.bind_some, zg_R (zc_e1 C1.2), Option.bind_some, C1.2.1.2.1, nI_add, e2, Option.bind_some, e3, Option.bind_some]
  exact ⟨M3, rfl, zy_Ywk (zy_Ytr (zy_Ah_A y1) y3) (by omega) (by omega) (fun a _ z => z), C3⟩
theorem zy_insertSet (h : zy_C M s) (hB : mm_n M + 8 < st_B) (b p t c : Int32) : zy_Of ["java/lang/IndexOutOfBoundsException", "java/lang/IllegalArgumentException", "java/lang/IllegalStateException"] (ff_D_insertSet 1 b p t c M) M (zv_insertSet s b p t c) := by
  unfold ff_D_insertSet zv_insertSet
  rw [zq_gd (zc_e1 h.2)]
  refine zy_rq h (zc_reqB h.2 b) rfl (fun c1 => ?_)
  obtain ⟨hb, eb⟩ := zi_An c1
  have eP := zy_reqP h hb p
  rw [← eb] at eP
  refine zy_rq h eP rfl (fun c2 => zy_rq h (zc_reqV t M) rfl (fun c3 => zy_rq h (zy_reqC c M) rfl (fun c4 => zy_rq h (zy_reqF h) rfl (fun c5 => ?_))))
  obtain ⟨hp, ep⟩ := zi_An c2
  obtain ⟨ht, et⟩ := zi_An c3
  obtain ⟨hc, ec⟩ := zi_An c4
  generalize zi_n b = b' at hb eb hp
  generalize zi_n p = p' at hp ep
  generalize zi_n t = t' at ht et
  generalize zi_n c = c' at hc ec
  subst eb ep et ec
  obtain ⟨M', e, y, C⟩ := zy_insW h hB hb (show p' ≤ _ by omega) c5 (zp_iok_set ht hc)
  rw [zc_set ht, Option.bind_some]
  unfold bd_2
  rw [e, Option.bind_some]
  exact ⟨M', rfl, y, C⟩
theorem zy_insertCalc (h : zy_C M s) (hB : mm_n M + 8 < st_B) (b p t l c r : Int32) : zy_Of ["java/lang/IndexOutOfBoundsException", "java/lang/IllegalArgumentException", "java/lang/IllegalStateException"] (ff_D_insertCalc 1 b p t l c r M) M (zv_insertCalc s b p t l c r) := by
  unfold ff_D_insertCalc zv_insertCalc
  rw [zq_gd (zc_e1 h.2)]
  refine zy_rq h (zc_reqB h.2 b) rfl (fun c1 => ?_)
  obtain ⟨hb, eb⟩ := zi_An c1
  have eP := zy_reqP h hb p
  rw [← eb] at eP
  refine zy_rq h eP rfl (fun c2 => zy_rq h (zc_reqV t M) rfl (fun c3 => zy_rq h (zc_reqV l M) rfl (fun c4 => zy_rq h (zy_reqO c M) rfl (fun c5 => zy_rq h (zc_reqV r M) rfl (fun c6 => zy_rq h (zy_reqF h) rfl (fun c7 => ?_))))))
  obtain ⟨hp, ep⟩ := zi_An c2
  obtain ⟨ht, et⟩ := zi_An c3
  obtain ⟨hl, el⟩ := zi_An c4
  obtain ⟨hc, ec⟩ := zi_An c5
  obtain ⟨hr, er⟩ := zi_An c6
  generalize zi_n b = b' at hb eb hp
  generalize zi_n p = p' at hp ep
  generalize zi_n t = t' at ht et
  generalize zi_n l = l' at hl el
  generalize zi_n c = c' at hc ec
  generalize zi_n r = r' at hr er
  subst eb ep et el ec er
  obtain ⟨M', e, y, C⟩ := zy_insW h hB hb (show p' ≤ _ by omega) c7 (zp_iok_calc (o := c') ht hl (by omega) hr)
  rw [zc_calc ht hl (by omega) hr, Option.bind_some]
  unfold bd_2
  rw [e, Option.bind_some]
  exact ⟨M', rfl, y, C⟩
theorem zy_removeInstruction (h : zy_C M s) (hB : mm_n M + 8 < st_B) (i : Int32) : zy_Of ["java/lang/IndexOutOfBoundsException"] (ff_D_removeInstruction 1 i M) M (zv_removeInstruction s i) := by
  unfold ff_D_removeInstruction zv_removeInstruction
  rw [zq_gd (zc_e1 h.2)]
  refine zy_rq h (zc_reqI h.2 i) rfl (fun c1 => ?_)
  obtain ⟨hi, ei⟩ := zi_An c1
  generalize zi_n i = i' at hi ei
  subst ei
  have hV := h.2.2.1.2.2
  obtain ⟨M1, e1, y1, C1⟩ := zy_keep h hB
  obtain ⟨M2, e2, f2, g2⟩ := zo_remove C1.2.2.1.1 C1.2.2.1.2.1 hV hi
  obtain ⟨⟨M3, e3, y3, C3⟩, k2⟩ := zy_act C1 f2 g2 (zp_rm_V hV hi)
  rw [zg_R (zc_e1 h.2), Option.bind_some, h.2.1.2.2.2.2.2.1, zg_R (zc_e1 h.2), Option.bind_some, h.2.1.2.1, e1, Option.bind_some, zg_R (zc_e1 C1.2), Option.bind_some, C1.2.1.2.1, e2, Option.bind_some, e3, Option.bind_some, zg_R (zc_e1 C3.2), Option.bind_some, C3.2.1.2.1, zr_instr C3.2.2.1.1 C3.2.2.1.2.1, Option.bind_some]
  exact ⟨M3, rfl, zy_Ywk (zy_Ytr (zy_Ah_A y1) y3) (by omega) (by omega) (fun a _ z => z), C3⟩
theorem zg_count {N : mm_T} {P : zp_T} (q : zc_Q N P) (d : zd_G N P) : ff_G_countReached 18 N = some (nI (zp_rc P)) := by
  have hV := q.2.1.2.2
  have hnb := hV.2.1
  have e18 : (mm_k N 18).1 = 2 := by rw [q.2.2.1.1.1]
  unfold ff_G_countReached
  rw [zq_gd e18, zg_I e18, Option.bind_some, zq_I, Option.bind_some]
  have e : fb_ct (bt (mm_I N 18 1)) 32 = zp_rc P := by
    rw [fb_ct_cong (q := fun b => zp_nr P 11 b) (fun b hb => Bool.eq_iff_iff.mpr ((d.1.2 b hb).trans (zp_RB_nr hV)))]
    exact zs_cut (by omega) (fun b hb => by
      cases e : zp_nr P 11 b with
      | false => rfl
      | true => have := zp_nr_lt hV e; omega)
  rw [e]
theorem zy_exitTail {M1 M3 : mm_T} {P' : zp_T} (y : zy_Y M M1 zy_A 7 109) (y3 : zy_Y M1 M3 zy_A 0 0) (C3 : zy_C M3 (zy_ed s P')) : zy_O (bd_2 (ff_D_graph 1 M3) fun x4 M4 => (ff_G_countReached x4 M4).bind fun x5 => some (.inl x5, M4)) M (.inl (nI (zp_rc P'))) (zy_ed s P') := by
  obtain ⟨M4, e4, f4, q4, -, d4⟩ := zc_graph C3.2
  unfold bd_2
  rw [e4, Option.bind_some]
  show zy_O ((ff_G_countReached 18 M4).bind _) M _ _
  have ec : ff_G_countReached 18 M4 = some (nI (zp_rc P')) := zg_count q4 d4
  rw [ec, Option.bind_some]
  refine ⟨M4, rfl, zy_Ywk (zy_Ytr (zy_Ytr y y3) (zy_Ywk (zy_YX (zu_F f4)) (Nat.le_refl _) (Nat.le_refl _) (fun a _ z => by unfold zg_A at z; unfold zy_A; omega))) (by omega) (by omega) (fun a _ z => z), C3.quest (zu_F (zg_zc f4)) q4⟩
theorem zy_setGoto (h : zy_C M s) (hB : mm_n M + 8 < st_B) (b y : Int32) : zy_Of ["java/lang/IndexOutOfBoundsException"] (ff_D_setGoto 1 b y M) M (zv_setGoto s b y) := by
  unfold ff_D_setGoto zv_setGoto
  rw [zq_gd (zc_e1 h.2)]
  refine zy_rq h (zc_reqB h.2 b) rfl (fun c1 => zy_rq h (zc_reqB h.2 y) rfl (fun c2 => ?_))
  obtain ⟨hb, eb⟩ := zi_An c1
  obtain ⟨hy, ey⟩ := zi_An c2
  generalize zi_n b = b' at hb eb
  generalize zi_n y = y' at hy ey
  subst eb ey
  have hV := h.2.2.1.2.2
  obtain ⟨M1, e1, y1, C1⟩ := zy_keep h hB
  obtain ⟨M2, e2, f2, g2⟩ := zo_setx (y := y') C1.2.2.1.1 C1.2.2.1.2.1 hV hb
  obtain ⟨⟨M3, e3, y3, C3⟩, k2⟩ := zy_act C1 f2 g2 (zp_setx_V hV (zp_bok_goto hy))
  rw [zg_R (zc_e1 h.2), Option.bind_some, h.2.1.2.2.2.2.2.1, zg_R (zc_e1 h.2), Option.bind_some, h.2.1.2.1, e1, Option.bind_some, zg_R (zc_e1 C1.2), Option.bind_some, C1.2.1.2.1, e2, Option.bind_some, e3, Option.bind_some]
  exact zy_exitTail (zy_Ah_A y1) y3 C3
theorem zy_setBranch (h : zy_C M s) (hB : mm_n M + 8 < st_B) (b v y z : Int32) : zy_Of ["java/lang/IndexOutOfBoundsException", "java/lang/IllegalArgumentException"] (ff_D_setBranch 1 b v y z M) M (zv_setBranch s b v y z) := by
  unfold ff_D_setBranch zv_setBranch
  rw [zq_gd (zc_e1 h.2)]
  refine zy_rq h (zc_reqB h.2 b) rfl (fun c1 => zy_rq h (zc_reqB h.2 y) rfl (fun c2 => zy_rq h (zc_reqB h.2 z) rfl (fun c3 => zy_rq h (zc_reqV v M) rfl (fun c4 => ?_))))
  obtain ⟨hb, eb⟩ := zi_An c1
  obtain ⟨hy, ey⟩ := zi_An c2
  obtain ⟨hz, ez⟩ := zi_An c3
  obtain ⟨hv, ev⟩ := zi_An c4
  generalize zi_n b = b' at hb eb
  generalize zi_n y = y' at hy ey
  generalize zi_n z = z' at hz ez
  generalize zi_n v = v' at hv ev
  subst eb ey ez ev
  have hV := h.2.2.1.2.2
  obtain ⟨M1, e1, y1, C1⟩ := zy_keep h hB
  obtain ⟨M2, e2, f2, g2⟩ := zo_setb (v := v') (y := y') (z := z') C1.2.2.1.1 C1.2.2.1.2.1 hV hb
  obtain ⟨⟨M3, e3, y3, C3⟩, k2⟩ := zy_act C1 f2 g2 (zp_setx_V hV (zp_bok_branch hv hy hz))
  rw [zg_R (zc_e1 h.2), Option.bind_some, h.2.1.2.2.2.2.2.1, zg_R (zc_e1 h.2), Option.bind_some, h.2.1.2.1, e1, Option.bind_some, zg_R (zc_e1 C1.2), Option.bind_some, C1.2.1.2.1, e2, Option.bind_some, e3, Option.bind_some]
  exact zy_exitTail (zy_Ah_A y1) y3 C3
end ZYB1
