/-! ===== the class's machine: an instruction ===== -/
/-- what an instruction does, the point apart -/
def zj_ex (P : zp_T) (s : zj_T) (i : Nat) : zj_T :=
  if zp_k P i = 3 then (zj_v s, zj_p s, some (zj_v s (zp_l P i)), zj_o s, zj_w s, zj_e s)
  else (fun v => if v = zp_t P i then zj_res P s i else zj_v s v, zj_p s, zj_s s, zj_o s, fun v => zj_w s v || decide (v = zp_t P i), zj_e s)
section ZRT
variable {M : mm_T} {P : zp_T}
theorem zj_store (h : zk_N M) {s : zj_T} (hs : zj_H M s) {t x : Nat} (ht : t < 8) : ff_D_put_a 39 (nI t) (nI x) M = some (mm_sI M 39 t (nI x)) ∧ zk_N (mm_sI M 39 t (nI x)) ∧ zf_F M (mm_sI (mm_sI M 39 t (nI x)) 38 2 (mm_I M 38 2 ||| io_shl 1 (nI t))) zj_A ∧ zj_H (mm_sI (mm_sI M 39 t (nI x)) 38 2 (mm_I M 38 2 ||| io_shl 1 (nI t))) (fun v => if v = t then x else zj_v s v, zj_p s, zj_s s, zj_o s, fun v => zj_w s v || decide (v = t), zj_e s) := by
  have f1 : zf_F M (mm_sI M 39 t (nI x)) zj_A := zf_I (by unfold zj_A; omega) _ _
  have f2 : zf_F (mm_sI M 39 t (nI x)) (mm_sI (mm_sI M 39 t (nI x)) 38 2 (mm_I M 38 2 ||| io_shl 1 (nI t))) zj_A := zf_I (by unfold zj_A; omega) _ _
  refine ⟨zd_put h.2.2.1 ht (by omega) _, h.keep f1, zf_tr f1 f2, ?_⟩
  obtain ⟨h1, h2, h3, h4, h5, h6⟩ := hs
  refine ⟨fun v hv => ?_, fun b hb => ?_, fun v hv => ?_, ?_, ?_, ?_⟩
  · rw [zm_II, if_neg (by omega), zm_II]
    show _ = nI (if v = t then x else zj_v s v)
    by_cases c : v = t
    · rw [if_pos ⟨rfl, c⟩, if_pos c]
    · rw [if_neg (fun z => c z.2), if_neg c]
      exact h1 v hv
  · rw [zm_II, if_neg (by omega), zm_II, if_neg (by omega)]
    exact h2 b hb
  · rw [zm_II, if_pos ⟨rfl, rfl⟩, b_or, zb_one t (by omega), h3 v hv]
    rfl
  · rw [zm_II, if_neg (by omega), zm_II, if_neg (by omega)]
    exact h4
  · rw [zm_II, if_neg (by omega), zm_II, if_neg (by omega)]
    exact h5
  · rw [zm_II, if_neg (by omega), zm_II, if_neg (by omega)]
    exact h6
theorem zj_execute (h : zk_N M) {s : zj_T} (hs : zj_H M s) (hV : zp_V P) (hok : ∀ v, v < 8 → zj_v s v < 1000) {i : Nat} (hi : i < zp_ni P) : ∃ M', ff_N_execute 38 (nI (zp_W (P.2.2.2.2 i))) M = some M' ∧ zf_F M M' zj_A ∧ zj_H M' (zj_ex P s i) ∧ mm_I M' 38 4 = mm_I M 38 4 := by
  have ho := hV.2.2.2.2.2.2.2 i hi
  have hk3 : zp_k P i ≤ 3 := ho.1
  have ht : zp_t P i < 8 := ho.2.1
  have ek : (P.2.2.2.2 i).1 = zp_k P i := rfl
  have e38 := zj_e38 h
  have put : ∀ x : Nat, ∃ M', ((gf_R M 38 5 0).bind fun x6 => (ff_O_target (nI (zp_W (P.2.2.2.2 i))) M).bind fun x7 => (ff_D_put_a x6 x7 (nI x) M).bind fun M1 => (gf_I M1 38 5 2).bind fun x8 => (ff_O_target (nI (zp_W (P.2.2.2.2 i))) M1).bind fun x9 => (pf_I M1 38 5 2 (x8 ||| io_shl 1 x9)).bind fun M2 => some M2) = some M' ∧ zf_F M M' zj_A ∧ zj_H M' (fun v => if v = zp_t P i then x else zj_v s v, zj_p s, zj_s s, zj_o s, fun v => zj_w s v || decide (v = zp_t P i), zj_e s) ∧ mm_I M' 38 4 = mm_I M 38 4 := by
    intro x
    obtain ⟨e1, k1, f1, h1⟩ := zj_store h hs (t := zp_t P i) (x := x) ht
    have e38' := zj_e38 k1
    have et : (P.2.2.2.2 i).2.1 = zp_t P i := rfl
    refine ⟨_, ?_, f1, h1, ?_⟩
    · rw [zg_R e38, Option.bind_some, h.2.1.1, zc_target ho, Option.bind_some, et, e1, Option.bind_some, zg_I e38', Option.bind_some, zc_target ho, Option.bind_some, et, zp_I e38', Option.bind_some, zm_II, if_neg (by omega)]
    · rw [zm_II, if_neg (by omega), zm_II, if_neg (by omega)]
  unfold ff_N_execute zj_ex
  simp only [zq_jp]
  rw [zq_gd e38, zc_kind ho, Option.bind_some, ek, zg_R e38, Option.bind_some, h.2.1.1]
  by_cases c0 : zp_k P i = 0
  · obtain ⟨l, hl, el⟩ := zc_left0 ho M
    rw [el, Option.bind_some, zj_at h hs hl, Option.bind_some, c0, if_neg (by decide), if_pos nI_0, zc_const ho (by rw [ek]; exact c0), Option.bind_some, if_neg (by omega)]
    have er : zj_res P s i = zp_l P i := by unfold zj_res; rw [if_pos c0]
    rw [er]
    have := put (zp_l P i)
    rw [zg_R e38, Option.bind_some, h.2.1.1] at this
    exact this
  · have hl : zp_l P i < 8 := ho.2.2.2.1 c0
    have hl' : (P.2.2.2.2 i).2.2.1 = zp_l P i := rfl
    rw [zc_left ho (by rw [ek]; exact c0), Option.bind_some, hl', zj_at h hs hl, Option.bind_some]
    by_cases c3 : zp_k P i = 3
    · rw [if_pos (show nI (zp_k P i) = (3 : Int32) by rw [c3]; rfl), if_pos c3, zp_I e38, Option.bind_some]
      refine ⟨_, rfl, zf_I (by unfold zj_A; omega) _ _, ?_, by rw [zm_II, if_neg (by omega)]⟩
      obtain ⟨h1, h2, h3, h4, h5, h6⟩ := hs
      refine ⟨fun v hv => ?_, fun b hb => ?_, fun v hv => ?_, ?_, ?_, ?_⟩
      · rw [zm_II, if_neg (by omega)]; exact h1 v hv
      · rw [zm_II, if_neg (by omega)]; exact h2 b hb
      · rw [zm_II, if_neg (by omega)]; exact h3 v hv
      · rw [zm_II, if_neg (by omega)]; exact h4
      · rw [zm_II, if_pos ⟨rfl, rfl⟩]; rfl
      · rw [zm_II, if_neg (by omega)]; exact h6
    · rw [if_neg (show ¬ nI (zp_k P i) = (3 : Int32) from fun z => c3 ((nI_eq (b := 3) (by omega) (by omega)).mp z)), if_neg c3, if_neg (nI_ne0 (by omega) (by omega))]
      by_cases c2 : zp_k P i = 2
      · have hr : zp_r P i < 8 := ho.2.2.2.2.2
        have hoo : zp_o P i ≤ 2 := ho.2.2.2.2.1
        have hr' : (P.2.2.2.2 i).2.2.2.2 = zp_r P i := rfl
        have ho' : (P.2.2.2.2 i).2.2.2.1 = zp_o P i := rfl
        rw [if_pos (show nI (zp_k P i) = (2 : Int32) by rw [c2]; rfl), zc_oper ho (by rw [ek]; exact c0), Option.bind_some, ho', Option.bind_some, zc_right ho (by rw [ek]; exact c0), Option.bind_some, hr', zj_at h hs hr, Option.bind_some, zc_result hoo (hok _ hl) (hok _ hr), Option.bind_some]
        have er : zj_res P s i = zc_op (zp_o P i) (zj_v s (zp_l P i)) (zj_v s (zp_r P i)) := by unfold zj_res; rw [if_neg c0, if_neg (by omega)]
        rw [er]
        have := put (zc_op (zp_o P i) (zj_v s (zp_l P i)) (zj_v s (zp_r P i)))
        rw [zg_R e38, Option.bind_some, h.2.1.1] at this
        exact this
      · rw [if_neg (show ¬ nI (zp_k P i) = (2 : Int32) from fun z => c2 ((nI_eq (b := 2) (by omega) (by omega)).mp z))]
        have er : zj_res P s i = zj_v s (zp_l P i) := by unfold zj_res; rw [if_neg c0, if_pos (by omega)]
        rw [er]
        have := put (zj_v s (zp_l P i))
        rw [zg_R e38, Option.bind_some, h.2.1.1] at this
        exact this
end ZRT
