/-! ===== answers on runs, both sides ===== -/
/-- steps that may be asked for; limits that may be given -/
abbrev zi_L (a : Int32) : Prop := 1 ≤ a.toInt ∧ a.toInt.toNat ≤ 1000
def zv_runSteps (P : zp_T) (a : Int32) : Nat × Int32 := if zi_L a then (0, nI (zj_n P (zi_n a))) else (1, 0)
def zv_runEnds (P : zp_T) (a : Int32) : Nat × Int32 := if zi_L a then (0, zb_B (zj_o (zj_run P (zi_n a)))) else (1, 0)
def zv_valueAfter (P : zp_T) (a v : Int32) : Nat × Int32 := if zi_A 1001 a then (if zi_A 8 v then (0, nI (zj_v (zj_run P (zi_n a)) (zi_n v))) else (1, 0)) else (1, 0)
def zv_lastShown (P : zp_T) (a : Int32) : Nat × Int32 := if zi_A 1001 a then (0, zo_N (zj_s (zj_run P (zi_n a)))) else (1, 0)
def zv_visits (P : zp_T) (b a : Int32) : Nat × Int32 := if zi_A (zp_nb P) b then (if zi_A 1001 a then (0, nI (zj_e (zj_run P (zi_n a)) (zi_n b))) else (2, 0)) else (1, 0)
theorem zi_Ln {a : Int32} (h : zi_L a) : zi_n a ≤ 1000 ∧ a = nI (zi_n a) := by
  have := zi_An (n := 1001) (a := a) ⟨by omega, by omega⟩
  exact ⟨by omega, this.2⟩
theorem zc_reqS (a : Int32) (M : mm_T) : ff_D_requireSteps a M = some (if zi_A 1001 a then none else some "java/lang/IllegalArgumentException") := by
  unfold ff_D_requireSteps zi_A
  rw [zq_jp]
  by_cases c : a < 0
  · rw [if_pos c, if_neg (fun q => by have := zi_neg.mp c; omega)]
  · rw [if_neg c]
    have c0 : 0 ≤ a.toInt := by rw [zi_neg] at c; omega
    by_cases d : a ≤ (1000 : Int32)
    · have := (zi_len (n := 1000) (by omega) c).mp d
      rw [if_pos d, if_pos ⟨c0, by omega⟩]
    · rw [if_neg d, if_neg (fun q => d ((zi_len (n := 1000) (by omega) c).mpr (by omega)))]
theorem zc_reqL (a : Int32) (M : mm_T) : ff_D_requireLimit a M = some (if zi_L a then none else some "java/lang/IllegalArgumentException") := by
  unfold ff_D_requireLimit zi_L
  rw [zq_jp]
  have e1 : (1 : Int32).toInt = 1 := rfl
  by_cases c : a < (1 : Int32)
  · rw [if_pos c, if_neg (fun q => by rw [Int32.lt_iff_toInt_lt, e1] at c; omega)]
  · rw [if_neg c]
    have c1 : 1 ≤ a.toInt := by rw [Int32.lt_iff_toInt_lt, e1] at c; omega
    have c0 : ¬ a < 0 := by rw [zi_neg]; omega
    by_cases d : a ≤ (1000 : Int32)
    · have := (zi_len (n := 1000) (by omega) c0).mp d
      rw [if_pos d, if_pos ⟨c1, by omega⟩]
    · rw [if_neg d, if_neg (fun q => d ((zi_len (n := 1000) (by omega) c0).mpr (by omega)))]
theorem zj_e_lt {P : zp_T} (n : Nat) : ∀ b, zj_e (zj_run P n) b ≤ n + 1 := by
  induction n with
  | zero => intro b; show (if b = 0 then 1 else 0) ≤ _; split <;> omega
  | succ n ih =>
    intro b
    have := ih b
    show zj_e (if zj_o (zj_run P n) = true then zj_run P n else zj_step P (zj_run P n)) b ≤ _
    split
    · omega
    · unfold zj_step
      split
      · split
        · show zj_e (zj_run P n) b ≤ _; omega
        · show zj_e (zj_run P n) b ≤ _; omega
      · split
        · show zj_e (zj_run P n) b ≤ _; omega
        · show zj_e (zj_run P n) b + (if _ then 1 else 0) ≤ _; split <;> omega
section ZCY
variable {M : mm_T} {P : zp_T}
theorem zj_zc {M M' : mm_T} (f : zf_F M M' zj_A) : zf_F M M' zc_A := zf_mono f (fun a q => by unfold zj_A at q; unfold zc_A; omega)
theorem zc_runT (h : zc_Q M P) (k : zk_N M) {n : Nat} (hn : n ≤ 1000) : ∃ M', ff_N_run 38 45 (nI n) M = some M' ∧ zf_F M M' zc_A ∧ zc_Q M' P ∧ zk_N M' ∧ zj_H M' (zj_run P n) ∧ mm_I M' 38 4 = nI (zj_n P n) := by
  obtain ⟨M', e, f, s, n1⟩ := zj_runC k h.2.1.1 h.2.1.2.1 h.2.1.2.2 hn
  exact ⟨M', e, zj_zc f, h.keepL (zl_F f) (fun a q => by unfold zj_A at q; omega), k.keep f, s, n1⟩
theorem zc_runSteps (h : zc_Q M P) (k : zk_N M) (a : Int32) : zc_O (ff_D_runSteps 1 a M) M P (zr_c ["java/lang/IllegalArgumentException"] (zv_runSteps P a)) := by
  unfold ff_D_runSteps zv_runSteps
  rw [zq_gd (zc_e1 h)]
  refine zc_rq h (zc_reqL a M) rfl (fun c => ?_)
  obtain ⟨hn, ea⟩ := zi_Ln c
  generalize zi_n a = n at hn ea
  subst ea
  obtain ⟨M', e, f, q, kn, s, n1⟩ := zc_runT h k hn
  rw [zg_R (zc_e1 h), Option.bind_some, h.1.2.2.2.2.2.2.2.2.2.2.2.2, zg_R (zc_e1 h), Option.bind_some, h.1.2.1, e, Option.bind_some, zg_R (zc_e1 q), Option.bind_some, q.1.2.2.2.2.2.2.2.2.2.2.2.2, zg_I (zj_e38 kn), Option.bind_some, n1]
  exact zc_ret f q
theorem zc_runEnds (h : zc_Q M P) (k : zk_N M) (a : Int32) : zc_O (ff_D_runEnds 1 a M) M P (zr_c ["java/lang/IllegalArgumentException"] (zv_runEnds P a)) := by
  unfold ff_D_runEnds zv_runEnds
  rw [zq_gd (zc_e1 h)]
  refine zc_rq h (zc_reqL a M) rfl (fun c => ?_)
  obtain ⟨hn, ea⟩ := zi_Ln c
  generalize zi_n a = n at hn ea
  subst ea
  obtain ⟨M', e, f, q, kn, s, n1⟩ := zc_runT h k hn
  rw [zg_R (zc_e1 h), Option.bind_some, h.1.2.2.2.2.2.2.2.2.2.2.2.2, zg_R (zc_e1 h), Option.bind_some, h.1.2.1, e, Option.bind_some, zg_R (zc_e1 q), Option.bind_some, q.1.2.2.2.2.2.2.2.2.2.2.2.2, zg_I (zj_e38 kn), Option.bind_some, s.2.2.2.2.2, zb_Zok, Option.bind_some]
  exact zc_ret f q
theorem zc_lastShown (h : zc_Q M P) (k : zk_N M) (a : Int32) : zc_O (ff_D_lastShown 1 a M) M P (zr_c ["java/lang/IllegalArgumentException"] (zv_lastShown P a)) := by
  unfold ff_D_lastShown zv_lastShown
  rw [zq_gd (zc_e1 h)]
  refine zc_rq h (zc_reqS a M) rfl (fun c => ?_)
  obtain ⟨hn, ea⟩ := zi_An c
  generalize zi_n a = n at hn ea
  subst ea
  obtain ⟨M', e, f, q, kn, s, n1⟩ := zc_runT h k (n := n) (by omega)
  rw [zg_R (zc_e1 h), Option.bind_some, h.1.2.2.2.2.2.2.2.2.2.2.2.2, zg_R (zc_e1 h), Option.bind_some, h.1.2.1, e, Option.bind_some, zg_R (zc_e1 q), Option.bind_some, q.1.2.2.2.2.2.2.2.2.2.2.2.2, zg_I (zj_e38 kn), Option.bind_some, s.2.2.2.2.1]
  exact zc_ret f q
theorem zc_valueAfter (h : zc_Q M P) (k : zk_N M) (a v : Int32) : zc_O (ff_D_valueAfter 1 a v M) M P (zr_c ["java/lang/IllegalArgumentException"] (zv_valueAfter P a v)) := by
  unfold ff_D_valueAfter zv_valueAfter
  rw [zq_gd (zc_e1 h)]
  refine zc_rq h (zc_reqS a M) rfl (fun c => zc_rq h (zc_reqV v M) rfl (fun c2 => ?_))
  obtain ⟨hn, ea⟩ := zi_An c
  obtain ⟨hv, ev⟩ := zi_An c2
  generalize zi_n a = n at hn ea
  generalize zi_n v = w at hv ev
  subst ea ev
  obtain ⟨M', e, f, q, kn, s, n1⟩ := zc_runT h k (n := n) (by omega)
  have e2 : ff_N_value 38 (nI w) M' = some (nI (zj_v (zj_run P n) w)) := by
    unfold ff_N_value
    rw [zq_gd (zj_e38 kn), zg_R (zj_e38 kn), Option.bind_some, kn.2.1.1, zj_at kn s hv, Option.bind_some]
  rw [zg_R (zc_e1 h), Option.bind_some, h.1.2.2.2.2.2.2.2.2.2.2.2.2, zg_R (zc_e1 h), Option.bind_some, h.1.2.1, e, Option.bind_some, zg_R (zc_e1 q), Option.bind_some, q.1.2.2.2.2.2.2.2.2.2.2.2.2, e2, Option.bind_some]
  exact zc_ret f q
theorem zc_visits (h : zc_Q M P) (k : zk_N M) (b a : Int32) : zc_O (ff_D_visits 1 b a M) M P (zr_c ["java/lang/IndexOutOfBoundsException", "java/lang/IllegalArgumentException"] (zv_visits P b a)) := by
  have hnb := h.2.1.2.2.2.1
  unfold ff_D_visits zv_visits
  rw [zq_gd (zc_e1 h)]
  refine zc_rq h (zc_reqB h b) rfl (fun c2 => zc_rq h (zc_reqS a M) rfl (fun c => ?_))
  obtain ⟨hn, ea⟩ := zi_An c
  obtain ⟨hv, ev⟩ := zi_An c2
  generalize zi_n a = n at hn ea
  generalize zi_n b = w at hv ev
  subst ea ev
  obtain ⟨M', e, f, q, kn, s, n1⟩ := zc_runT h k (n := n) (by omega)
  have e2 : ff_N_entriesInto 38 (nI w) M' = some (nI (zj_e (zj_run P n) w)) := by
    unfold ff_N_entriesInto
    rw [zq_gd (zj_e38 kn), zg_R (zj_e38 kn), Option.bind_some, kn.2.1.2, zd_at kn.2.2.2 (show w < 12 by omega) (by omega), s.2.1 w (by omega), Option.bind_some]
  rw [zg_R (zc_e1 h), Option.bind_some, h.1.2.2.2.2.2.2.2.2.2.2.2.2, zg_R (zc_e1 h), Option.bind_some, h.1.2.1, e, Option.bind_some, zg_R (zc_e1 q), Option.bind_some, q.1.2.2.2.2.2.2.2.2.2.2.2.2, e2, Option.bind_some]
  exact zc_ret f q
end ZCY
/-! the reference: a wider frame -/
def zt_B (a : Nat) : Prop := a = 52 ∨ (55 ≤ a ∧ a ≤ 59)
/-- an answer of the reference, whatever it wrote beside -/
def zt_U (X : Option (Int32 × mm_T)) (M : mm_T) (p : Nat × Int32) : Prop := ∃ v M', X = some (v, M') ∧ zf_X M M' zt_B 20 240 ∧ (∀ k, (k < 10 ∧ k ≠ 4) ∨ 13 < k → mm_I M' 52 k = mm_I M 52 k) ∧ mm_I M' 52 4 = nI p.1 ∧ (p.1 = 0 → v = p.2)
theorem zt_OU {X : Option (Int32 × mm_T)} {M : mm_T} {p : Nat × Int32} (h : zt_O X M p) (h52 : 52 ≤ mm_n M) : zt_U X M p := by
  obtain ⟨v, M', e, f, q⟩ := h
  have f0 : zf_X M (mm_sI M 52 4 (nI p.1)) zt_B 0 0 := zu_F (zf_I (A := zt_B) (Or.inl rfl) 4 _)
  have f1 := zu_wk f (Nat.le_refl _) (Nat.le_refl _) (B := zt_B) (fun a q => by unfold zt_A at q; unfold zt_B; omega)
  have n0 : ¬ zt_A 52 := by unfold zt_A; omega
  refine ⟨v, M', e, zu_wk (zu_tr f0 f1) (by omega) (by omega) (fun a q => q), fun k hk => ?_, ?_, q⟩
  · rw [zu_i f h52 n0, zm_II, if_neg (by omega)]
  · rw [zu_i f h52 n0, zm_II, if_pos ⟨rfl, rfl⟩]
theorem zt_retJ {M N : mm_T} {w : Int32} (f : zj_F (mm_sI M 52 4 0) N) : zt_U (some (w, N)) M (0, w) := by
  refine ⟨w, N, rfl, zu_wk (zu_tr (zu_F (zf_I (A := zt_B) (Or.inl rfl) 4 0)) (zu_F (zf_mono f.1 (fun a q => by unfold zj_B at q; unfold zt_B; omega)))) (by omega) (by omega) (fun a q => q), fun k hk => ?_, ?_, fun _ => rfl⟩
  · rw [f.2 k (by omega), zm_II, if_neg (by omega)]
  · rw [f.2 4 (by omega), zm_II, if_pos ⟨rfl, rfl⟩]
    rfl
theorem zt_thrJ {M : mm_T} {v w : Int32} {k : Nat} (hk : k ≠ 0) : zt_U (some (v, mm_sI M 52 4 (nI k))) M (k, w) := by
  refine ⟨v, _, rfl, zu_wk (zu_F (zf_I (A := zt_B) (Or.inl rfl) 4 _)) (by omega) (by omega) (fun a q => q), fun j hj => ?_, ?_, fun q => absurd q hk⟩
  · rw [zm_II, if_neg (by omega)]
  · rw [zm_II, if_pos ⟨rfl, rfl⟩]
section ZTY
variable {M : mm_T} {o : Nat} {P : zp_T}
theorem zt_inL (a : Int32) (M : mm_T) : ff_M_in a 1 1000 M = some (zb_B (decide (zi_L a))) := by
  have e1 : (1 : Int32).toInt = 1 := rfl
  have e2 : (1000 : Int32).toInt = 1000 := rfl
  unfold ff_M_in zi_L
  by_cases c : a < (1 : Int32)
  · rw [if_pos c]
    rw [Int32.lt_iff_toInt_lt, e1] at c
    rw [decide_eq_false (by omega)]
    rfl
  · rw [if_neg c]
    rw [Int32.lt_iff_toInt_lt, e1] at c
    by_cases d : (1000 : Int32) < a
    · rw [if_pos d]
      rw [Int32.lt_iff_toInt_lt, e2] at d
      rw [decide_eq_false (by omega)]
      rfl
    · rw [if_neg d]
      rw [Int32.lt_iff_toInt_lt, e2] at d
      rw [decide_eq_true (by omega)]
      rfl
theorem zt_isLim (h : zt_S M o P) (a k : Int32) : ff_M_isCount 52 a 1 k M = some (zb_B (decide (zi_L a)), if zi_L a then M else mm_sI M 52 4 k) := by
  unfold ff_M_isCount
  rw [zq_gd (zt_e52 h), zt_inL, Option.bind_some]
  by_cases c : zi_L a
  · rw [if_pos c, decide_eq_true c, if_neg (by decide)]
    rfl
  · rw [if_neg c, decide_eq_false c, if_pos (by decide), zp_I (zt_e52 h), Option.bind_some]
    rfl
theorem zt_isStp (h : zt_S M o P) (a k : Int32) : ff_M_isCount 52 a 0 k M = some (zb_B (decide (zi_A 1001 a)), if zi_A 1001 a then M else mm_sI M 52 4 k) := by
  unfold ff_M_isCount
  rw [zq_gd (zt_e52 h), show (1000 : Int32) = nI 1001 - 1 by decide, zt_inA (by omega), Option.bind_some]
  by_cases c : zi_A 1001 a
  · rw [if_pos c, decide_eq_true c, if_neg (by decide)]
    rfl
  · rw [if_neg c, decide_eq_false c, if_pos (by decide), zp_I (zt_e52 h), Option.bind_some]
    rfl
theorem zj_runsR (h : zt_S M o P) {n : Nat} (hn : n ≤ 1000) : ∃ M', ff_M_runs 52 (nI n) M = some (nI (zj_n P n), M') ∧ zj_F M M' ∧ ∃ b k, zj_M M' P (zj_run P n) b k := by
  have hV := h.2.2.2.2
  suffices goal : zh_H (ff_M_runs 52 (nI n) M) (fun y => ∃ M', y = (nI (zj_n P n), M') ∧ zj_F M M' ∧ ∃ b k, zj_M M' P (zj_run P n) b k) by
    obtain ⟨y, e, M', rfl, q⟩ := goal
    exact ⟨M', e, q⟩
  obtain ⟨M1, e1, f1, s1⟩ := zj_beginsR h
  unfold ff_M_runs
  rw [zq_gd (zt_e52 h), e1, Option.bind_some]
  refine zh_up (F := fun fu i N => lf_M_runs_6 52 (nI n) fu i N) n (fun i N => zj_F M N ∧ (∃ b k, zj_M N P (zj_run P i) b k) ∧ zj_n P i = i) ?_ ?_ fu_L 0 M1 (Nat.zero_le _) (by rw [zs_fuel]; omega) ⟨f1, ⟨0, 0, s1⟩, rfl⟩
  · intro fu i N hi ⟨g1, ⟨b, k, g2⟩, g3⟩ kk
    have hS := h.keepJ g1
    show zh_H (lb_M_runs_6 52 (nI n) (lf_M_runs_6 52 (nI n) fu) (nI i) N) _
    unfold lb_M_runs_6
    rw [if_neg (nI_ge hi (by omega)), zg_I (zt_e52 hS), Option.bind_some, g2.2.2.2.2.2]
    cases eo : zj_o (zj_run P i) with
    | true =>
      rw [if_neg (by decide)]
      obtain ⟨r1, r2⟩ := zj_stay eo (n - i)
      rw [show i + (n - i) = n by omega] at r1 r2
      exact zh_some ⟨N, by rw [r2, g3], g1, b, k, by rw [r1]; exact g2⟩
    | false =>
      rw [if_pos (by decide)]
      have r1 : zj_run P (i + 1) = zj_step P (zj_run P i) := by
        show (if zj_o (zj_run P i) = true then zj_run P i else zj_step P (zj_run P i)) = _
        rw [if_neg (by rw [eo]; decide)]
      have r2 : zj_n P (i + 1) = zj_n P i + 1 := by
        show (if zj_o (zj_run P i) = true then zj_n P i else zj_n P i + 1) = _
        rw [if_neg (by rw [eo]; decide)]
      by_cases c : k = zp_st P (b + 1)
      · obtain ⟨N2, b2, k2, e2, f2, q2, -⟩ := zj_exitR hS g2 (zj_ok_run hV i) eo c
        rw [e2, Option.bind_some, Option.bind_some, nI_1]
        exact kk N2 ⟨zj_F_tr g1 f2, ⟨b2, k2, by rw [r1]; exact q2⟩, by rw [r2, g3]⟩
      · obtain ⟨N2, e2, f2, q2, -, -⟩ := zj_instR hS g2 (zj_ok_run hV i) c
        rw [e2, Option.bind_some, Option.bind_some, nI_1]
        exact kk N2 ⟨zj_F_tr g1 f2, ⟨b, k + 1, by rw [r1]; exact q2⟩, by rw [r2, g3]⟩
  · intro fu N ⟨g1, g2, g3⟩
    show zh_H (lb_M_runs_6 52 (nI n) (lf_M_runs_6 52 (nI n) fu) (nI n) N) _
    unfold lb_M_runs_6
    rw [if_pos (nI_le (Nat.le_refl _) (by omega))]
    exact zh_some ⟨N, by rw [g3], g1, g2⟩
theorem zt_runSteps (h : zt_S M o P) (a : Int32) : zt_U (ff_M_runSteps 52 a M) M (zv_runSteps P a) := by
  have h1 := h.thrown 0
  unfold ff_M_runSteps zv_runSteps
  rw [zq_gd (zt_e52 h), zp_I (zt_e52 h), Option.bind_some]
  unfold bd_2
  rw [show (1 : Int32) = nI 1 from rfl] 
  rw [show ff_M_isCount 52 a (nI 1) (nI 1) (mm_sI M 52 4 0) = _ from zt_isLim h1 a (nI 1), Option.bind_some, zm_over]
  by_cases c : zi_L a
  · rw [if_pos c, if_pos c, decide_eq_true c]
    obtain ⟨hn, ea⟩ := zi_Ln c
    generalize zi_n a = n at hn ea
    subst ea
    obtain ⟨M', e, f, b, k, s⟩ := zj_runsR h1 hn
    show zt_U (if (1 : Int32) = 0 then _ else _) M _
    rw [if_neg (by decide)]
    show zt_U ((ff_M_runs 52 (nI n) (mm_sI M 52 4 0)).bind _) M _
    rw [e, Option.bind_some]
    exact zt_retJ f
  · rw [if_neg c, if_neg c, decide_eq_false c]
    exact zt_thrJ (by omega)
theorem zt_runEnds (h : zt_S M o P) (a : Int32) : zt_U (ff_M_runEnds 52 a M) M (zv_runEnds P a) := by
  have h1 := h.thrown 0
  unfold ff_M_runEnds zv_runEnds
  rw [zq_gd (zt_e52 h), zp_I (zt_e52 h), Option.bind_some]
  unfold bd_2
  rw [show (1 : Int32) = nI 1 from rfl] 
  rw [show ff_M_isCount 52 a (nI 1) (nI 1) (mm_sI M 52 4 0) = _ from zt_isLim h1 a (nI 1), Option.bind_some, zm_over]
  by_cases c : zi_L a
  · rw [if_pos c, if_pos c, decide_eq_true c]
    obtain ⟨hn, ea⟩ := zi_Ln c
    generalize zi_n a = n at hn ea
    subst ea
    obtain ⟨M', e, f, b, k, s⟩ := zj_runsR h1 hn
    show zt_U (if (1 : Int32) = 0 then _ else _) M _
    rw [if_neg (by decide)]
    show zt_U ((ff_M_runs 52 (nI n) (mm_sI M 52 4 0)).bind _) M _
    rw [e, Option.bind_some]
    show zt_U ((gf_I M' 52 11 13).bind _) M _
    rw [zg_I (zt_e52 (h1.keepJ f)), Option.bind_some, s.2.2.2.2.2, zb_Zok, Option.bind_some]
    exact zt_retJ f
  · rw [if_neg c, if_neg c, decide_eq_false c]
    exact zt_thrJ (by omega)
theorem zt_lastShown (h : zt_S M o P) (a : Int32) : zt_U (ff_M_lastShown 52 a M) M (zv_lastShown P a) := by
  have h1 := h.thrown 0
  unfold ff_M_lastShown zv_lastShown
  rw [zq_gd (zt_e52 h), zp_I (zt_e52 h), Option.bind_some]
  unfold bd_2
  rw [zt_isStp h1, Option.bind_some, zm_over]
  by_cases c : zi_A 1001 a
  · rw [if_pos c, if_pos c, decide_eq_true c]
    obtain ⟨hn, ea⟩ := zi_An c
    generalize zi_n a = n at hn ea
    subst ea
    obtain ⟨M', e, f, b, k, s⟩ := zj_runsR h1 (n := n) (by omega)
    show zt_U (if (1 : Int32) = 0 then _ else _) M _
    rw [if_neg (by decide)]
    show zt_U ((ff_M_runs 52 (nI n) (mm_sI M 52 4 0)).bind _) M _
    rw [e, Option.bind_some]
    show zt_U ((gf_I M' 52 11 12).bind _) M _
    rw [zg_I (zt_e52 (h1.keepJ f)), Option.bind_some, s.2.2.2.2.1]
    exact zt_retJ f
  · rw [if_neg c, if_neg c, decide_eq_false c]
    exact zt_thrJ (k := 1) (by omega)
theorem zt_valueAfter (h : zt_S M o P) (a v : Int32) : zt_U (ff_M_valueAfter 52 a v M) M (zv_valueAfter P a v) := by
  have h1 := h.thrown 0
  unfold ff_M_valueAfter zv_valueAfter
  rw [zq_gd (zt_e52 h), zp_I (zt_e52 h), Option.bind_some]
  unfold bd_2
  rw [zt_isStp h1, Option.bind_some, zm_over]
  by_cases c : zi_A 1001 a
  · rw [if_pos c, if_pos c, decide_eq_true c]
    show zt_U (if (1 : Int32) = 0 then _ else _) M _
    rw [if_neg (by decide)]
    show zt_U ((ff_M_isVariable 52 v 1 (mm_sI M 52 4 0)).bind _) M _
    rw [zt_isVar h1, Option.bind_some, zm_over]
    by_cases c2 : zi_A 8 v
    · rw [if_pos c2, if_pos c2, decide_eq_true c2]
      obtain ⟨hn, ea⟩ := zi_An c
      obtain ⟨hv, ev⟩ := zi_An c2
      generalize zi_n a = n at hn ea
      generalize zi_n v = w at hv ev
      subst ea ev
      obtain ⟨M', e, f, b, k, s⟩ := zj_runsR h1 (n := n) (by omega)
      have hS := h1.keepJ f
      show zt_U (if (1 : Int32) = 0 then _ else _) M _
      rw [if_neg (by decide)]
      show zt_U ((ff_M_runs 52 (nI n) (mm_sI M 52 4 0)).bind _) M _
      rw [e, Option.bind_some]
      show zt_U ((gf_R M' 52 11 9).bind _) M _
      rw [zg_R (zt_e52 hS), Option.bind_some, (zt_r59 hS.1).1, za_I (zt_r59 hS.1).2 hv (by omega), Option.bind_some, s.2.2.2.1 w hv]
      exact zt_retJ f
    · rw [if_neg c2, if_neg c2, decide_eq_false c2]
      exact zt_thrJ (k := 1) (by omega)
  · rw [if_neg c, if_neg c, decide_eq_false c]
    exact zt_thrJ (k := 1) (by omega)
theorem zt_visits (h : zt_S M o P) (b a : Int32) : zt_U (ff_M_visits 52 b a M) M (zv_visits P b a) := by
  have hV := h.2.2.2.2
  have hnb := hV.2.1
  have h1 := h.thrown 0
  unfold ff_M_visits zv_visits
  rw [zq_gd (zt_e52 h)]
  unfold bd_2
  rw [zt_isBlock h, Option.bind_some]
  by_cases c2 : zi_A (zp_nb P) b
  · rw [if_pos c2, if_pos c2, decide_eq_true c2]
    show zt_U (if (1 : Int32) = 0 then _ else _) M _
    rw [if_neg (by decide)]
    show zt_U ((ff_M_isCount 52 a 0 2 (mm_sI M 52 4 0)).bind _) M _
    rw [zt_isStp h1, Option.bind_some, zm_over]
    by_cases c : zi_A 1001 a
    · rw [if_pos c, if_pos c, decide_eq_true c]
      obtain ⟨hn, ea⟩ := zi_An c
      obtain ⟨hv, ev⟩ := zi_An c2
      generalize zi_n a = n at hn ea
      generalize zi_n b = w at hv ev
      subst ea ev
      show zt_U (if (1 : Int32) = 0 then _ else _) M _
      rw [if_neg (by decide)]
      obtain ⟨M1, e1, f1, s1⟩ := zj_beginsR h1
      rw [e1, Option.bind_some]
      have b0 : ∀ (K : Int32 → Option (Int32 × mm_T)), jp_J (α := Int32 → Option (Int32 × mm_T)) (fun (x3 : Int32) => (ff_M_one x3 M1).bind fun x4 => K x4) (fun j33 => if nI w = 0 then (j33 (1 : Int32)) else (j33 (0 : Int32))) = K (nI (if w = 0 then 1 else 0)) := by
        intro K
        rw [zq_jp]
        by_cases z : w = 0
        · rw [if_pos (by rw [z]; rfl), if_pos z]
          show (ff_M_one (zb_B true) M1).bind _ = _
          rw [zt_one, Option.bind_some]
          rfl
        · rw [if_neg (nI_ne0 (by omega) (by omega)), if_neg z]
          show (ff_M_one (zb_B false) M1).bind _ = _
          rw [zt_one, Option.bind_some]
          rfl
      rw [b0 (fun x4 => lf_M_visits_40 52 (nI w) (nI n) fu_L x4 0 M1)]
      suffices goal : zh_H (lf_M_visits_40 52 (nI w) (nI n) fu_L (nI (if w = 0 then 1 else 0)) 0 M1) (fun y => ∃ M', y = (nI (zj_e (zj_run P n) w), M') ∧ zj_F (mm_sI M 52 4 0) M') by
        obtain ⟨y, e, M', rfl, q⟩ := goal
        rw [e]
        exact zt_retJ q
      refine zh_up (F := fun fu i (s : Int32 × mm_T) => lf_M_visits_40 52 (nI w) (nI n) fu s.1 i s.2) n (fun i s => zj_F (mm_sI M 52 4 0) s.2 ∧ (∃ b k, zj_M s.2 P (zj_run P i) b k) ∧ s.1 = nI (zj_e (zj_run P i) w)) ?_ ?_ fu_L 0 (_, M1) (Nat.zero_le _) (by rw [zs_fuel]; omega) ⟨f1, ⟨0, 0, s1⟩, rfl⟩
      · intro fu i s hi ⟨g1, ⟨b, k, g2⟩, g3⟩ kk
        obtain ⟨x, N⟩ := s
        simp only at g1 g2 g3
        have hS := h1.keepJ g1
        show zh_H (lb_M_visits_40 52 (nI w) (nI n) (lf_M_visits_40 52 (nI w) (nI n) fu) x (nI i) N) _
        unfold lb_M_visits_40
        rw [if_neg (nI_ge hi (by omega)), zg_I (zt_e52 hS), Option.bind_some, g2.2.2.2.2.2]
        cases eo : zj_o (zj_run P i) with
        | true =>
          rw [if_neg (by decide)]
          obtain ⟨r1, r2⟩ := zj_stay eo (n - i)
          rw [show i + (n - i) = n by omega] at r1
          exact zh_some ⟨N, by rw [r1, g3], g1⟩
        | false =>
          rw [if_pos (by decide)]
          have r1 : zj_run P (i + 1) = zj_step P (zj_run P i) := by
            show (if zj_o (zj_run P i) = true then zj_run P i else zj_step P (zj_run P i)) = _
            rw [if_neg (by rw [eo]; decide)]
          have hb := g2.1.1
          have hk := g2.1.2.2.1
          have hse := zp_st_le hV (b := b + 1) (by omega)
          have hni := hV.2.2.1
          have one : ∀ (N2 : mm_T) (d : Bool) (t : Int32), zj_F (mm_sI M 52 4 0) N2 → (∃ b k, zj_M N2 P (zj_run P (i + 1)) b k) → nI (zj_e (zj_run P (i + 1)) w) = x + (if d then 1 else 0) → zh_H ((ff_M_one (zb_B d) N2).bind fun x11 => (some (x + x11)).bind fun x12 => (some (nI i + (1 : Int32))).bind fun x13 => lf_M_visits_40 52 (nI w) (nI n) fu x12 x13 N2) (fun y => ∃ M', y = (nI (zj_e (zj_run P n) w), M') ∧ zj_F (mm_sI M 52 4 0) M') := by
            intro N2 d t a1 a2 a3
            rw [zt_one, Option.bind_some, Option.bind_some, Option.bind_some, nI_1]
            refine kk (_, N2) ⟨a1, a2, ?_⟩
            rw [a3]
            cases d <;> rfl
          rw [zg_I (zt_e52 hS), Option.bind_some, g2.2.2.1, zg_I (zt_e52 hS), Option.bind_some, g2.2.1, zt_endOf hS hb, Option.bind_some]
          simp only [zq_jp]
          by_cases c : k = zp_st P (b + 1)
          · obtain ⟨N2, b2, k2, e2, f2, q2, q3⟩ := zj_exitR hS g2 (zj_ok_run hV i) eo c
            have hS2 := hS.keepJ f2
            have hb2 := q2.1.1
            rw [if_pos (by rw [c]), e2, Option.bind_some, if_neg (by decide), zg_I (zt_e52 hS2), Option.bind_some, q2.2.2.2.2.2]
            have q3' := q3 w
            cases eo2 : zj_o (zj_step P (zj_run P i)) with
            | true =>
              rw [eo2, if_neg (fun z => Bool.noConfusion z.1), Nat.add_zero] at q3'
              rw [if_neg (by decide)]
              exact one N2 false 0 (zj_F_tr g1 f2) ⟨b2, k2, by rw [r1]; exact q2⟩ (by rw [r1, q3', g3]; simp)
            | false =>
              rw [if_pos (by decide), zg_I (zt_e52 hS2), Option.bind_some, q2.2.1]
              by_cases cb : b2 = w
              · rw [eo2, if_pos ⟨rfl, cb⟩] at q3'
                rw [if_pos (by rw [cb])]
                exact one N2 true 0 (zj_F_tr g1 f2) ⟨b2, k2, by rw [r1]; exact q2⟩ (by rw [r1, q3', g3, if_pos rfl, nI_1])
              · rw [eo2, if_neg (fun z => cb z.2), Nat.add_zero] at q3'
                rw [if_neg (fun z => cb ((nI_eq (by omega) (by omega)).mp z))]
                exact one N2 false 0 (zj_F_tr g1 f2) ⟨b2, k2, by rw [r1]; exact q2⟩ (by rw [r1, q3', g3]; simp)
          · obtain ⟨N2, e2, f2, q2, q3, q4⟩ := zj_instR hS g2 (zj_ok_run hV i) c
            rw [if_neg (fun z => c ((nI_eq (by omega) (by omega)).mp z)), e2, Option.bind_some, if_pos trivial]
            exact one N2 false 0 (zj_F_tr g1 f2) ⟨b, k + 1, by rw [r1]; exact q2⟩ (by rw [r1, q3, g3]; simp)
      · intro fu s ⟨g1, g2, g3⟩
        obtain ⟨x, N⟩ := s
        simp only at g1 g2 g3
        show zh_H (lb_M_visits_40 52 (nI w) (nI n) (lf_M_visits_40 52 (nI w) (nI n) fu) x (nI n) N) _
        unfold lb_M_visits_40
        rw [if_pos (nI_le (Nat.le_refl _) (by omega)), g3]
        exact zh_some ⟨N, rfl, g1⟩
    · rw [if_neg c, if_neg c, decide_eq_false c]
      exact zt_thrJ (k := 2) (by omega)
  · rw [if_neg c2, if_neg c2, decide_eq_false c2]
    exact zt_thrJ (k := 1) (by omega)
end ZTY
