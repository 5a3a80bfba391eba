/-! ===== programs changed ===== -/
def zp_setx (P : zp_T) (b : Nat) (q : Nat × Nat × Nat × Nat) : zp_T := (zp_nb P, zp_ni P, zp_st P, (fun c => if c = b then q else P.2.2.2.1 c), P.2.2.2.2)
def zp_seti (P : zp_T) (i : Nat) (q : Nat × Nat × Nat × Nat × Nat) : zp_T := (zp_nb P, zp_ni P, zp_st P, P.2.2.2.1, fun j => if j = i then q else P.2.2.2.2 j)
def zp_ins (P : zp_T) (b i : Nat) (q : Nat × Nat × Nat × Nat × Nat) : zp_T := (zp_nb P, zp_ni P + 1, (fun c => if b < c then zp_st P c + 1 else zp_st P c), P.2.2.2.1, fun j => if j < i then P.2.2.2.2 j else if j = i then q else P.2.2.2.2 (j - 1))
def zp_rm (P : zp_T) (i : Nat) : zp_T := (zp_nb P, zp_ni P - 1, (fun c => if zp_bk P i < c then zp_st P c - 1 else zp_st P c), P.2.2.2.1, fun j => if j < i then P.2.2.2.2 j else P.2.2.2.2 (j + 1))
theorem zp_setx_V {P : zp_T} (hV : zp_V P) {b : Nat} {q : Nat × Nat × Nat × Nat} (hq : zp_bok (zp_nb P) q) : zp_V (zp_setx P b q) := by
  obtain ⟨h1, h2, h3, h4, h5, h6, h7, h8⟩ := hV
  refine ⟨h1, h2, h3, h4, h5, h6, fun c hc => ?_, h8⟩
  show zp_bok (zp_nb P) (if c = b then q else P.2.2.2.1 c)
  split
  · exact hq
  · exact h7 c hc
theorem zp_seti_V {P : zp_T} (hV : zp_V P) {i : Nat} {q : Nat × Nat × Nat × Nat × Nat} (hq : zp_iok q) : zp_V (zp_seti P i q) := by
  obtain ⟨h1, h2, h3, h4, h5, h6, h7, h8⟩ := hV
  refine ⟨h1, h2, h3, h4, h5, h6, h7, fun c hc => ?_⟩
  show zp_iok (if c = i then q else P.2.2.2.2 c)
  split
  · exact hq
  · exact h8 c hc
theorem zp_ins_V {P : zp_T} (hV : zp_V P) {b i : Nat} {q : Nat × Nat × Nat × Nat × Nat} (hb : b < zp_nb P) (h1 : zp_st P b ≤ i) (h2 : i ≤ zp_st P (b + 1)) (hn : zp_ni P < 40) (hq : zp_iok q) : zp_V (zp_ins P b i q) := by
  have hse := zp_st_le hV (b := b + 1) (by omega)
  obtain ⟨a1, a2, a3, a4, a5, a6, a7, a8⟩ := hV
  refine ⟨a1, a2, hn, ?_, fun c hc => ?_, ?_, a7, fun c hc => ?_⟩
  · show (if b < 0 then zp_st P 0 + 1 else zp_st P 0) = 0
    rw [if_neg (by omega), a4]
  · show (if b < c then zp_st P c + 1 else zp_st P c) ≤ (if b < c + 1 then zp_st P (c + 1) + 1 else zp_st P (c + 1))
    have := a5 c hc
    by_cases c1 : b < c
    · rw [if_pos c1, if_pos (by omega)]; omega
    · rw [if_neg c1]
      split <;> omega
  · show (if b < zp_nb P then zp_st P (zp_nb P) + 1 else zp_st P (zp_nb P)) = zp_ni P + 1
    rw [if_pos hb, a6]
  · have hc' : c < zp_ni P + 1 := hc
    show zp_iok (if c < i then P.2.2.2.2 c else if c = i then q else P.2.2.2.2 (c - 1))
    split
    · exact a8 c (by omega)
    · split
      · exact hq
      · exact a8 _ (by omega)
theorem zp_rm_V {P : zp_T} (hV : zp_V P) {i : Nat} (hi : i < zp_ni P) : zp_V (zp_rm P i) := by
  have hbl := zp_bk_lt hV hi
  have hlo := zp_bk_lo hV hi
  have hhi := zp_bk_hi hV hi
  have hm : ∀ c, zp_bk P i < c → c ≤ zp_nb P → 1 ≤ zp_st P c := fun c h1 h2 => by
    have := zp_mono hV (b := zp_bk P i + 1) (c := c) (by omega) h2
    omega
  obtain ⟨a1, a2, a3, a4, a5, a6, a7, a8⟩ := hV
  refine ⟨a1, a2, ?_, ?_, fun c hc => ?_, ?_, a7, fun c hc => ?_⟩
  · show zp_ni P - 1 ≤ 40; omega
  · show (if zp_bk P i < 0 then zp_st P 0 - 1 else zp_st P 0) = 0
    rw [if_neg (by omega), a4]
  · have hc' : c < zp_nb P := hc
    show (if zp_bk P i < c then zp_st P c - 1 else zp_st P c) ≤ (if zp_bk P i < c + 1 then zp_st P (c + 1) - 1 else zp_st P (c + 1))
    have h5 := a5 c hc
    by_cases c1 : zp_bk P i < c
    · rw [if_pos c1, if_pos (by omega)]; omega
    · rw [if_neg c1]
      by_cases c2 : zp_bk P i < c + 1
      · rw [if_pos c2]
        have : c = zp_bk P i := by omega
        subst this
        omega
      · rw [if_neg c2]; exact h5
  · show (if zp_bk P i < zp_nb P then zp_st P (zp_nb P) - 1 else zp_st P (zp_nb P)) = zp_ni P - 1
    rw [if_pos hbl, a6]
  · have hc' : c < zp_ni P - 1 := hc
    show zp_iok (if c < i then P.2.2.2.2 c else P.2.2.2.2 (c + 1))
    split
    · exact a8 c (by omega)
    · exact a8 _ (by omega)
theorem zp_bok_goto {n y : Nat} (hy : y < n) : zp_bok n (1, 0, y, 0) := ⟨by show (1 : Nat) ≤ 2; omega, fun _ => hy, fun z => by have : (1 : Nat) = 2 := z; omega⟩
theorem zp_bok_branch {n v y z : Nat} (hv : v < 8) (hy : y < n) (hz : z < n) : zp_bok n (2, v, y, z) := ⟨Nat.le_refl _, fun _ => hy, fun _ => ⟨hv, hz⟩⟩
theorem zp_iok_set {t c : Nat} (ht : t < 8) (hc : c < 1000) : zp_iok (0, t, c, 0, 0) := ⟨by show (0 : Nat) ≤ 3; omega, ht, hc, fun z => absurd rfl z, by show (0 : Nat) ≤ 2; omega, by show (0 : Nat) < 8; omega⟩
theorem zp_iok_calc {t l o r : Nat} (ht : t < 8) (hl : l < 8) (ho : o ≤ 2) (hr : r < 8) : zp_iok (2, t, l, o, r) := ⟨by show (2 : Nat) ≤ 3; omega, ht, by show l < 1000; omega, fun _ => hl, ho, hr⟩
theorem zp_iok_move {t l : Nat} (ht : t < 8) (hl : l < 8) : zp_iok (1, t, l, 0, 0) := ⟨by show (1 : Nat) ≤ 3; omega, ht, by show l < 1000; omega, fun _ => hl, by show (0 : Nat) ≤ 2; omega, by show (0 : Nat) < 8; omega⟩
theorem zp_iok_show {l : Nat} (hl : l < 8) : zp_iok (3, 0, l, 0, 0) := ⟨Nat.le_refl _, by show (0 : Nat) < 8; omega, by show l < 1000; omega, fun _ => hl, by show (0 : Nat) ≤ 2; omega, by show (0 : Nat) < 8; omega⟩
/-! the packed word is made -/
theorem zi_shl {n k : Nat} (hk : k < 32) : io_shl (nI n) (nI k) = nI (n * 2 ^ k) := by
  apply Int32.toBitVec_inj.mp
  apply BitVec.eq_of_getLsbD_eq
  intro i hi
  have e := b_shl k hk (nI n) hi
  unfold bt at e
  show (nI n <<< (nI k &&& 31)).toBitVec.getLsbD i = (nI (n * 2 ^ k)).toBitVec.getLsbD i
  rw [e]
  show _ = (BitVec.ofNat 32 (n * 2 ^ k)).getLsbD i
  rw [BitVec.getLsbD_ofNat]
  have e2 : (nI n).toBitVec.getLsbD (i - k) = (decide (i - k < 32) && n.testBit (i - k)) := by
    show (BitVec.ofNat 32 n).getLsbD (i - k) = _
    rw [BitVec.getLsbD_ofNat]
  rw [e2, Nat.testBit_mul_two_pow]
  have h1 : decide (i - k < 32) = true := decide_eq_true (by omega)
  have h2 : decide (i < 32) = true := decide_eq_true hi
  rw [h1, h2, Bool.true_and, Bool.true_and]
theorem zi_orS {a b k : Nat} (h : a < 2 ^ k) : nI a ||| nI (b * 2 ^ k) = nI (a + b * 2 ^ k) := by
  rw [fa_or]
  congr 1
  rw [Nat.mul_comm, Nat.or_comm, ← Nat.two_pow_add_eq_or_of_lt h]
  omega
theorem zc_pack {k t l o r c : Nat} (hk : k < 4) (ht : t < 8) (hl : l < 8) (ho : o < 4) (hr : r < 8) (M : mm_T) : ff_O_pack (nI k) (nI t) (nI l) (nI o) (nI r) (nI c) M = some (nI (k + 4 * t + 32 * l + 256 * r + 2048 * o + 8192 * c)) := by
  unfold ff_O_pack
  rw [show (2 : Int32) = nI 2 from rfl, show (5 : Int32) = nI 5 from rfl, show (8 : Int32) = nI 8 from rfl, show (11 : Int32) = nI 11 from rfl, show (13 : Int32) = nI 13 from rfl, zi_shl (by omega), zi_shl (by omega), zi_shl (by omega), zi_shl (by omega), zi_shl (by omega), zi_orS (k := 2) (by omega), zi_orS (k := 5) (by omega), zi_orS (k := 8) (by omega), zi_orS (k := 11) (by omega), zi_orS (k := 13) (by omega)]
  congr 2
  omega
theorem zc_set {t c : Nat} (ht : t < 8) (M : mm_T) : ff_O_set (nI t) (nI c) M = some (nI (zp_W (0, t, c, 0, 0))) := by
  unfold ff_O_set
  have := zc_pack (k := 0) (t := t) (l := 0) (o := 0) (r := 0) (c := c) (by omega) ht (by omega) (by omega) (by omega) M
  rw [show (0 : Int32) = nI 0 from rfl, this, Option.bind_some]
  unfold zp_W
  rw [if_pos rfl]
  congr 2
  show 0 + 4 * t + 32 * 0 + 256 * 0 + 2048 * 0 + 8192 * c = 4 * t + 8192 * c
  omega
theorem zc_calc {t l o r : Nat} (ht : t < 8) (hl : l < 8) (ho : o < 4) (hr : r < 8) (M : mm_T) : ff_O_calc (nI t) (nI l) (nI o) (nI r) M = some (nI (zp_W (2, t, l, o, r))) := by
  unfold ff_O_calc
  have := zc_pack (k := 2) (t := t) (l := l) (o := o) (r := r) (c := 0) (by omega) ht hl ho hr M
  rw [show (0 : Int32) = nI 0 from rfl, show (2 : Int32) = nI 2 from rfl, this, Option.bind_some]
  unfold zp_W
  rw [if_neg (show ¬ (2 : Nat) = 0 by omega)]
  congr 2
/-! ===== a Program object is changed ===== -/
def zo_A (t a : Nat) : Prop := t ≤ a ∧ a ≤ t + 6
section ZOE
variable {M : mm_T} {t : Nat} {P : zp_T}
theorem zo_e (hP : zo_P M t) : (mm_k M t).1 = 7 := by rw [hP.1]
theorem zo_setx (hP : zo_P M t) (hH : zo_H M t P) (hV : zp_V P) {b y : Nat} (hb : b < zp_nb P) : ∃ M', ff_P_exitByGoto t (nI b) (nI y) M = some M' ∧ zf_F M M' (zo_A t) ∧ zo_H M' t (zp_setx P b (1, 0, y, 0)) := by
  have hnb := hV.2.1
  have f1 : zf_F M (mm_sI M (t + 3) b 1) (zo_A t) := zf_I (by unfold zo_A; omega) _ _
  have hP1 := hP.keep f1
  unfold ff_P_exitByGoto
  rw [zq_gd (zo_e hP), zg_R (zo_e hP), Option.bind_some, hP.2.1.2.2.1, zd_put hP.2.2.2.2.1 (show b < 12 by omega) (by omega), Option.bind_some, zg_R (zo_e hP1), Option.bind_some, hP1.2.1.2.2.2.2.1, zd_put hP1.2.2.2.2.2.2.1 (show b < 12 by omega) (by omega), Option.bind_some]
  refine ⟨_, rfl, zf_tr f1 (zf_I (by unfold zo_A; omega) _ _), ?_⟩
  obtain ⟨h1, h2, h3, h4, h5, h6, h7, h8⟩ := hH
  refine ⟨?_, ?_, fun i hi => ?_, fun c hc => ?_, fun c hc => ?_, fun c hc hw => ?_, fun c hc hw => ?_, fun c hc hw => ?_⟩
  · rw [zm_II, if_neg (by omega), zm_II, if_neg (by omega)]; exact h1
  · rw [zm_II, if_neg (by omega), zm_II, if_neg (by omega)]; exact h2
  · rw [zm_II, if_neg (by omega), zm_II, if_neg (by omega)]; exact h3 i hi
  · rw [zm_II, if_neg (by omega), zm_II, if_neg (by omega)]; exact h4 c hc
  · rw [zm_II, if_neg (by omega), zm_II]
    show _ = nI (if c = b then (1, 0, y, 0) else P.2.2.2.1 c).1
    by_cases q : c = b
    · rw [if_pos ⟨rfl, q⟩, if_pos q]; rfl
    · rw [if_neg (fun z => q z.2), if_neg q]; exact h5 c hc
  · have hw' : (if c = b then (1, 0, y, 0) else P.2.2.2.1 c).1 = 2 := hw
    rw [zm_II, if_neg (by omega), zm_II, if_neg (by omega)]
    show _ = nI (if c = b then (1, 0, y, 0) else P.2.2.2.1 c).2.1
    by_cases q : c = b
    · rw [if_pos q] at hw'; exact absurd hw' (by show ¬ (1 : Nat) = 2; omega)
    · rw [if_neg q] at hw' ⊢; exact h6 c hc hw'
  · have hw' : 1 ≤ (if c = b then (1, 0, y, 0) else P.2.2.2.1 c).1 := hw
    rw [zm_II]
    show _ = nI (if c = b then (1, 0, y, 0) else P.2.2.2.1 c).2.2.1
    by_cases q : c = b
    · rw [if_pos ⟨rfl, q⟩, if_pos q]
    · rw [if_neg (fun z => q z.2), if_neg q]
      rw [if_neg q] at hw'
      rw [zm_II, if_neg (by omega)]
      exact h7 c hc hw'
  · have hw' : (if c = b then (1, 0, y, 0) else P.2.2.2.1 c).1 = 2 := hw
    rw [zm_II, if_neg (by omega), zm_II, if_neg (by omega)]
    show _ = nI (if c = b then (1, 0, y, 0) else P.2.2.2.1 c).2.2.2
    by_cases q : c = b
    · rw [if_pos q] at hw'; exact absurd hw' (by show ¬ (1 : Nat) = 2; omega)
    · rw [if_neg q] at hw' ⊢; exact h8 c hc hw'
theorem zo_setb (hP : zo_P M t) (hH : zo_H M t P) (hV : zp_V P) {b v y z : Nat} (hb : b < zp_nb P) : ∃ M', ff_P_exitByBranch t (nI b) (nI v) (nI y) (nI z) M = some M' ∧ zf_F M M' (zo_A t) ∧ zo_H M' t (zp_setx P b (2, v, y, z)) := by
  have hnb := hV.2.1
  have f1 : zf_F M (mm_sI M (t + 3) b 2) (zo_A t) := zf_I (by unfold zo_A; omega) _ _
  have hP1 := hP.keep f1
  have f2 : zf_F M (mm_sI (mm_sI M (t + 3) b 2) (t + 4) b (nI v)) (zo_A t) := zf_tr f1 (zf_I (by unfold zo_A; omega) _ _)
  have hP2 := hP.keep f2
  have f3 : zf_F M (mm_sI (mm_sI (mm_sI M (t + 3) b 2) (t + 4) b (nI v)) (t + 5) b (nI y)) (zo_A t) := zf_tr f2 (zf_I (by unfold zo_A; omega) _ _)
  have hP3 := hP.keep f3
  unfold ff_P_exitByBranch
  rw [zq_gd (zo_e hP), zg_R (zo_e hP), Option.bind_some, hP.2.1.2.2.1, zd_put hP.2.2.2.2.1 (show b < 12 by omega) (by omega), Option.bind_some, zg_R (zo_e hP1), Option.bind_some, hP1.2.1.2.2.2.1, zd_put hP1.2.2.2.2.2.1 (show b < 12 by omega) (by omega), Option.bind_some, zg_R (zo_e hP2), Option.bind_some, hP2.2.1.2.2.2.2.1, zd_put hP2.2.2.2.2.2.2.1 (show b < 12 by omega) (by omega), Option.bind_some, zg_R (zo_e hP3), Option.bind_some, hP3.2.1.2.2.2.2.2, zd_put hP3.2.2.2.2.2.2.2 (show b < 12 by omega) (by omega), Option.bind_some]
  refine ⟨_, rfl, zf_tr f3 (zf_I (by unfold zo_A; omega) _ _), ?_⟩
  obtain ⟨h1, h2, h3, h4, h5, h6, h7, h8⟩ := hH
  refine ⟨?_, ?_, fun i hi => ?_, fun c hc => ?_, fun c hc => ?_, fun c hc hw => ?_, fun c hc hw => ?_, fun c hc hw => ?_⟩
  · rw [zm_II, if_neg (by omega), zm_II, if_neg (by omega), zm_II, if_neg (by omega), zm_II, if_neg (by omega)]; exact h1
  · rw [zm_II, if_neg (by omega), zm_II, if_neg (by omega), zm_II, if_neg (by omega), zm_II, if_neg (by omega)]; exact h2
  · rw [zm_II, if_neg (by omega), zm_II, if_neg (by omega), zm_II, if_neg (by omega), zm_II, if_neg (by omega)]; exact h3 i hi
  · rw [zm_II, if_neg (by omega), zm_II, if_neg (by omega), zm_II, if_neg (by omega), zm_II, if_neg (by omega)]; exact h4 c hc
  · rw [zm_II, if_neg (by omega), zm_II, if_neg (by omega), zm_II, if_neg (by omega), zm_II]
    show _ = nI (if c = b then (2, v, y, z) else P.2.2.2.1 c).1
    by_cases q : c = b
    · rw [if_pos ⟨rfl, q⟩, if_pos q]; rfl
    · rw [if_neg (fun z => q z.2), if_neg q]; exact h5 c hc
  · have hw' : (if c = b then (2, v, y, z) else P.2.2.2.1 c).1 = 2 := hw
    rw [zm_II, if_neg (by omega), zm_II, if_neg (by omega), zm_II]
    show _ = nI (if c = b then (2, v, y, z) else P.2.2.2.1 c).2.1
    by_cases q : c = b
    · rw [if_pos ⟨rfl, q⟩, if_pos q]
    · rw [if_neg (fun z => q z.2), if_neg q]
      rw [if_neg q] at hw'
      rw [zm_II, if_neg (by omega)]
      exact h6 c hc hw'
  · have hw' : 1 ≤ (if c = b then (2, v, y, z) else P.2.2.2.1 c).1 := hw
    rw [zm_II, if_neg (by omega), zm_II]
    show _ = nI (if c = b then (2, v, y, z) else P.2.2.2.1 c).2.2.1
    by_cases q : c = b
    · rw [if_pos ⟨rfl, q⟩, if_pos q]
    · rw [if_neg (fun z => q z.2), if_neg q]
      rw [if_neg q] at hw'
      rw [zm_II, if_neg (by omega), zm_II, if_neg (by omega)]
      exact h7 c hc hw'
  · have hw' : (if c = b then (2, v, y, z) else P.2.2.2.1 c).1 = 2 := hw
    rw [zm_II]
    show _ = nI (if c = b then (2, v, y, z) else P.2.2.2.1 c).2.2.2
    by_cases q : c = b
    · rw [if_pos ⟨rfl, q⟩, if_pos q]
    · rw [if_neg (fun z => q z.2), if_neg q]
      rw [if_neg q] at hw'
      rw [zm_II, if_neg (by omega), zm_II, if_neg (by omega), zm_II, if_neg (by omega)]
      exact h8 c hc hw'
theorem zo_seti (hP : zo_P M t) (hH : zo_H M t P) (hV : zp_V P) {i : Nat} {q : Nat × Nat × Nat × Nat × Nat} (hi : i < zp_ni P) : ∃ M', ff_P_replace t (nI i) (nI (zp_W q)) M = some M' ∧ zf_F M M' (zo_A t) ∧ zo_H M' t (zp_seti P i q) := by
  have hni := hV.2.2.1
  unfold ff_P_replace
  rw [zq_gd (zo_e hP), zg_R (zo_e hP), Option.bind_some, hP.2.1.1, zd_put hP.2.2.1 (show i < 40 by omega) (by omega), Option.bind_some]
  refine ⟨_, rfl, zf_I (by unfold zo_A; omega) _ _, ?_⟩
  obtain ⟨h1, h2, h3, h4, h5, h6, h7, h8⟩ := hH
  refine ⟨?_, ?_, fun j hj => ?_, fun c hc => ?_, fun c hc => ?_, fun c hc hw => ?_, fun c hc hw => ?_, fun c hc hw => ?_⟩
  · rw [zm_II, if_neg (by omega)]; exact h1
  · rw [zm_II, if_neg (by omega)]; exact h2
  · rw [zm_II]
    show _ = nI (zp_W (if j = i then q else P.2.2.2.2 j))
    by_cases c : j = i
    · rw [if_pos ⟨rfl, c⟩, if_pos c]
    · rw [if_neg (fun z => c z.2), if_neg c]; exact h3 j hj
  · rw [zm_II, if_neg (by omega)]; exact h4 c hc
  · rw [zm_II, if_neg (by omega)]; exact h5 c hc
  · rw [zm_II, if_neg (by omega)]; exact h6 c hc hw
  · rw [zm_II, if_neg (by omega)]; exact h7 c hc hw
  · rw [zm_II, if_neg (by omega)]; exact h8 c hc hw
end ZOE
