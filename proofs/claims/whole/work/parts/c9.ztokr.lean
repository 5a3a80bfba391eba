/-! ===== tokens, the reference ===== -/
def zT_rv (t : Nat → Nat) (s : Nat) : Nat → Nat
  | 0 => 0
  | j + 1 => if zT_rv t s j ≤ 999999 then 10 * zT_rv t s j + t (s + j) - 48 else zT_rv t s j
theorem zT_rv_ok (t : Nat → Nat) (s : Nat) : ∀ n, (∀ j, j < n → 48 ≤ t (s + j) ∧ t (s + j) ≤ 57) → zT_rv t s n ≤ 9999999 ∧ min (zT_rv t s n) 1000 = zT_val t s n
  | 0, _ => ⟨Nat.zero_le _, rfl⟩
  | n + 1, h => by
    have ih := zT_rv_ok t s n (fun j hj => h j (by omega))
    have d := h n (by omega)
    have e1 : zT_rv t s (n + 1) = if zT_rv t s n ≤ 999999 then 10 * zT_rv t s n + t (s + n) - 48 else zT_rv t s n := rfl
    have e2 : zT_val t s (n + 1) = min (zT_val t s n * 10 + (t (s + n) - 48)) 1000 := rfl
    rw [e1, e2]
    by_cases c : zT_rv t s n ≤ 999999
    · rw [if_pos c]; omega
    · rw [if_neg c]; omega
def zT_M (M : mm_T) (tx : (Nat → Nat) × Nat) (e : Nat) : Prop := e ≤ tx.2 ∧ mm_I M 52 20 = nI (zT_k tx e) ∧ mm_I M 52 19 = nI (zT_s' tx e) ∧ mm_I M 52 18 = nI (zT_e tx e) ∧ (zT_k tx e = 2 → mm_I M 52 21 = nI (zT_rv tx.1 (zT_s' tx e) (zT_e tx e - zT_s' tx e)))
def zT_FM (M M' : mm_T) : Prop := zf_F M M' (fun a => a = 52) ∧ ∀ k, k < 18 ∨ 21 < k → mm_I M' 52 k = mm_I M 52 k
theorem zT_FM_rfl (M : mm_T) : zT_FM M M := ⟨zf_rfl _ _, fun _ _ => rfl⟩
theorem zT_FM_tr {M M1 M2 : mm_T} (h : zT_FM M M1) (h2 : zT_FM M1 M2) : zT_FM M M2 := ⟨zf_tr h.1 h2.1, fun k hk => (h2.2 k hk).trans (h.2 k hk)⟩
theorem zT_FM_1 (M : mm_T) {k : Nat} (v : Int32) (h1 : 18 ≤ k) (h2 : k ≤ 21) : zT_FM M (mm_sI M 52 k v) := ⟨zf_I1 _ _ _ _, fun j hj => by rw [zm_II, if_neg (by omega)]⟩
section ZTM
variable {M : mm_T} {tx : (Nat → Nat) × Nat} {e : Nat}
theorem zT_e52 (hR : zt_R M) : (mm_k M 52).1 = 11 := by rw [hR.1]
theorem zT_txk (hx : zt_tx M tx) {M' : mm_T} (f : zT_FM M M') : zt_tx M' tx := ⟨(f.2 15 (by omega)).trans hx.1, hx.2.1, fun i hi => ⟨(zf_i f.1 (by omega) i).trans (hx.2.2 i hi).1, (hx.2.2 i hi).2⟩⟩
theorem zT_arM (hR : zt_R M) (hx : zt_tx M tx) {i : Nat} (hi : i < tx.2) : ar_I M 60 (nI i) = some (nI (tx.1 i)) := by
  have h7 := hx.2.1
  rw [za_I (zt_r60 hR).2 (by omega) (by omega), (hx.2.2 i hi).1]
theorem zT_inM {v a b : Nat} (hv : v < 256) (ha : a < 256) (hb : b < 256) (M : mm_T) : ff_M_in (nI v) (nI a) (nI b) M = some (zb_B (decide (a ≤ v ∧ v ≤ b))) := by
  unfold ff_M_in
  by_cases c1 : v < a
  · rw [if_pos (nI_lt c1 (by omega)), decide_eq_false (by omega)]; rfl
  · rw [if_neg (nI_nlt (by omega) (by omega))]
    by_cases c2 : b < v
    · rw [if_pos (nI_lt c2 (by omega)), decide_eq_false (by omega)]; rfl
    · rw [if_neg (nI_nlt (by omega) (by omega)), decide_eq_true (by omega)]; rfl
theorem zT_byteM (hR : zt_R M) (hx : zt_tx M tx) {i a b : Nat} (h18 : mm_I M 52 18 = nI i) (hi : i ≤ tx.2) (ha : a < 256) (hb : b < 256) : ff_M_isByte 52 (nI a) (nI b) M = some (zb_B (decide (i < tx.2 ∧ a ≤ tx.1 i ∧ tx.1 i ≤ b))) := by
  have h7 := hx.2.1
  have e52 := zT_e52 hR
  unfold ff_M_isByte
  rw [zq_gd e52, zg_I e52, Option.bind_some, h18, zg_I e52, Option.bind_some, hx.1]
  by_cases c : i < tx.2
  · rw [if_neg (nI_ge c (by omega)), zg_R e52, Option.bind_some, (zt_r60 hR).1, Option.bind_some, zT_arM hR hx c, Option.bind_some, zT_inM (hx.2.2 i c).2 ha hb, Option.bind_some]
    by_cases d : a ≤ tx.1 i ∧ tx.1 i ≤ b
    · rw [decide_eq_true d, if_neg (by decide), decide_eq_true ⟨c, d⟩]; rfl
    · rw [decide_eq_false d, if_pos (by decide), decide_eq_false (fun z => d z.2)]; rfl
  · rw [if_pos (nI_le (by omega) (by omega)), decide_eq_false (fun z => c z.1)]; rfl
theorem zT_nextM (hR : zt_R M) (hx : zt_tx M tx) {e : Nat} (he : e ≤ tx.2) (h18 : mm_I M 52 18 = nI e) : ∃ M', ff_M_next 52 M = some M' ∧ zT_FM M M' ∧ zT_M M' tx e := by
  have h7 := hx.2.1
  have e52 := zT_e52 hR
  have hsle := zT_s_le he
  have hsg := zT_s_ge tx e
  have hel := zT_e_le he
  suffices goal : zh_H (ff_M_next 52 M) (fun M' => zT_FM M M' ∧ zT_M M' tx e) from goal
  unfold ff_M_next
  rw [zq_gd e52]
  -- the blanks
  have aux : ∀ (k0 : mm_T → Option mm_T) (Q : mm_T → Prop), (∀ N, zT_FM M N → mm_I N 52 18 = nI (zT_s' tx e) → zh_H (k0 N) Q) → zh_H (lf_M_next_0 k0 52 fu_L M) Q := by
    intro k0 Q hk
    refine zh_loop (F := fun fu (σ : Nat × mm_T) => lf_M_next_0 k0 52 fu σ.2) (fun σ => e ≤ σ.1 ∧ σ.1 ≤ zT_s' tx e ∧ zT_FM M σ.2 ∧ mm_I σ.2 52 18 = nI σ.1) (fun σ => zT_s' tx e - σ.1) ?_ fu_L (e, M) ⟨Nat.le_refl _, zT_s_ge tx e, zT_FM_rfl M, h18⟩ (by rw [zs_fuel]; show zT_s' tx e - e < _; omega)
    intro fu σ ⟨g0, g1, g2, g3⟩ k
    obtain ⟨j, N⟩ := σ
    simp only at g0 g1 g2 g3
    have pN := hR.keep g2.1
    have xN := zT_txk hx g2
    have eN := zT_e52 pN
    have b1 := zT_byteM pN xN g3 (by omega) (a := 32) (b := 32) (by omega) (by omega)
    have b2 := zT_byteM pN xN g3 (by omega) (a := 10) (b := 10) (by omega) (by omega)
    have stp : j < zT_s' tx e → zh_H ((gf_I N 52 11 18).bind fun x2 => (pf_I N 52 11 18 (x2 + (1 : Int32))).bind fun M1 => lf_M_next_0 k0 52 fu M1) Q := by
      intro d
      rw [zg_I eN, Option.bind_some, g3, nI_1, zp_I eN, Option.bind_some]
      exact k (j + 1, _) ⟨by show e ≤ j + 1; omega, by show j + 1 ≤ _; omega, zT_FM_tr g2 (zT_FM_1 N _ (by omega) (by omega)), by show mm_I (mm_sI N 52 18 (nI (j + 1))) 52 18 = nI (j + 1); rw [zm_II, if_pos ⟨rfl, rfl⟩]⟩ (by show zT_s' tx e - (j + 1) < zT_s' tx e - j; omega)
    have bl : j < zT_s' tx e → tx.1 j = 32 ∨ tx.1 j = 10 := fun d => by
      have := zT_s_lo g0 d
      unfold zT_bl at this
      simpa using this
    have nb : ¬ j < zT_s' tx e → ¬ (j < tx.2 ∧ (tx.1 j = 32 ∨ tx.1 j = 10)) := fun d z => by
      have ej : j = zT_s' tx e := by omega
      have := zT_s_hi he (ej ▸ z.1)
      rw [← ej] at this
      unfold zT_bl at this
      simp at this
      omega
    show zh_H (lb_M_next_0 k0 52 (lf_M_next_0 k0 52 fu) N) _
    unfold lb_M_next_0
    rw [show (32 : Int32) = nI 32 from rfl, show (10 : Int32) = nI 10 from rfl, b1, Option.bind_some, zq_jp, b2]
    by_cases c : j < zT_s' tx e
    · have hb := bl c
      by_cases c1 : tx.1 j = 32
      · rw [decide_eq_true ⟨by omega, by omega, by omega⟩, if_neg (by decide)]
        exact stp c
      · rw [decide_eq_false (fun z => c1 (by omega)), if_pos (by decide), Option.bind_some, decide_eq_true ⟨by omega, by omega, by omega⟩, if_neg (by decide)]
        exact stp c
    · have hn := nb c
      rw [decide_eq_false (fun z => hn ⟨z.1, by omega⟩), if_pos (by decide), Option.bind_some, decide_eq_false (fun z => hn ⟨z.1, by omega⟩), if_pos (by decide)]
      have ej : j = zT_s' tx e := by omega
      subst ej
      exact hk N g2 g3
  refine aux _ _ (fun N f g3 => ?_)
  have pN := hR.keep f.1
  have xN := zT_txk hx f
  have eN := zT_e52 pN
  show zh_H ((gf_I N 52 11 18).bind _) _
  have q1 := zT_FM_1 N (k := 19) (nI (zT_s' tx e)) (by omega) (by omega)
  have i18 : mm_I (mm_sI N 52 19 (nI (zT_s' tx e))) 52 18 = nI (zT_s' tx e) := by rw [zm_II, if_neg (by omega), g3]
  have i19 : mm_I (mm_sI N 52 19 (nI (zT_s' tx e))) 52 19 = nI (zT_s' tx e) := by rw [zm_II, if_pos ⟨rfl, rfl⟩]
  rw [zg_I eN, Option.bind_some, g3, zp_I eN, Option.bind_some]
  generalize mm_sI N 52 19 (nI (zT_s' tx e)) = N1 at q1 i18 i19 ⊢
  have f1 := zT_FM_tr f q1
  have p1 := hR.keep f1.1
  have x1 := zT_txk hx f1
  have e1 := zT_e52 p1
  rw [zg_I e1, Option.bind_some, i18, zg_I e1, Option.bind_some, x1.1]
  by_cases c0 : zT_s' tx e < tx.2
  · rw [if_neg (fun z => by have := (nI_eq (by omega) (by omega)).mp z; omega)]
    have kd : zT_k tx e = zT_kd (tx.1 (zT_s' tx e)) := by unfold zT_k; rw [if_pos c0]
    have hk0 : zT_k tx e ≠ 0 := zT_k0.mpr c0
    have hlt := hel.2.2 hk0
    have lets : ∀ (j : Nat) (kk : Nat), zT_k tx e = kk → (kk = 1 ∨ kk = 2) → zT_s' tx e ≤ j → j ≤ zT_e tx e → (j < zT_e tx e ↔ j < tx.2 ∧ zT_kd (tx.1 j) = kk) := by
      intro j kk h0 hk g1 g2
      constructor
      · intro z; exact ⟨by omega, (zT_in (by omega) g1 z).trans h0⟩
      · intro z
        rcases Nat.lt_or_ge j (zT_e tx e) with q | q
        · exact q
        · have ej : j = zT_e tx e := by omega
          subst ej
          exact absurd (z.2.trans h0.symm) (zT_out he (by omega) z.1)
    have h256 := (hx.2.2 _ c0).2
    have t1 := zT_byteM p1 x1 i18 (by omega) (a := 97) (b := 122) (by omega) (by omega)
    have t2 := zT_byteM p1 x1 i18 (by omega) (a := 48) (b := 57) (by omega) (by omega)
    have t3 := zT_byteM p1 x1 i18 (by omega) (a := 59) (b := 59) (by omega) (by omega)
    rw [show (97 : Int32) = nI 97 from rfl, show (122 : Int32) = nI 122 from rfl, show (48 : Int32) = nI 48 from rfl, show (57 : Int32) = nI 57 from rfl, show (59 : Int32) = nI 59 from rfl, t1, Option.bind_some]
    by_cases k1 : 97 ≤ tx.1 (zT_s' tx e) ∧ tx.1 (zT_s' tx e) ≤ 122
    · -- a word
      have ek : zT_k tx e = 1 := by rw [kd]; unfold zT_kd; rw [if_pos k1]
      rw [decide_eq_true ⟨c0, k1⟩, if_neg (by decide)]
      refine zh_loop (F := fun fu (σ : Nat × mm_T) => lf_M_next_73 (fun M12 => (pf_I M12 52 11 20 (1 : Int32)).bind fun M13 => some M13) 52 fu σ.2) (fun σ => zT_s' tx e ≤ σ.1 ∧ σ.1 ≤ zT_e tx e ∧ zT_FM M σ.2 ∧ mm_I σ.2 52 18 = nI σ.1 ∧ mm_I σ.2 52 19 = nI (zT_s' tx e)) (fun σ => zT_e tx e - σ.1) ?_ fu_L (zT_s' tx e, N1) ⟨Nat.le_refl _, hel.1, f1, i18, i19⟩ (by rw [zs_fuel]; show zT_e tx e - zT_s' tx e < _; omega)
      intro fu σ ⟨g0, g1, g2, g4, g5⟩ k
      obtain ⟨j, N⟩ := σ
      simp only at g0 g1 g2 g4 g5
      have pN := hR.keep g2.1
      have xN := zT_txk hx g2
      have eN := zT_e52 pN
      have lj := lets j 1 ek (Or.inl rfl) g0 g1
      have kj : zT_kd (tx.1 j) = 1 ↔ 97 ≤ tx.1 j ∧ tx.1 j ≤ 122 := by unfold zT_kd; split <;> (try split) <;> (try split) <;> omega
      show zh_H (lb_M_next_73 _ 52 (lf_M_next_73 _ 52 fu) N) _
      unfold lb_M_next_73
      rw [show (97 : Int32) = nI 97 from rfl, show (122 : Int32) = nI 122 from rfl, zT_byteM pN xN g4 (by omega) (by omega) (by omega), Option.bind_some]
      by_cases c : j < zT_e tx e
      · have z := lj.mp c
        rw [decide_eq_true ⟨z.1, kj.mp z.2⟩, if_neg (by decide), zg_I eN, Option.bind_some, g4, nI_1, zp_I eN, Option.bind_some]
        exact k (j + 1, _) ⟨by show _ ≤ j + 1; omega, by show j + 1 ≤ _; omega, zT_FM_tr g2 (zT_FM_1 N _ (by omega) (by omega)), by show mm_I (mm_sI N 52 18 (nI (j + 1))) 52 18 = nI (j + 1); rw [zm_II, if_pos ⟨rfl, rfl⟩], by show mm_I (mm_sI N 52 18 (nI (j + 1))) 52 19 = _; rw [zm_II, if_neg (by omega), g5]⟩ (by show zT_e tx e - (j + 1) < zT_e tx e - j; omega)
      · have ej : j = zT_e tx e := by omega
        rw [decide_eq_false (fun z => c (lj.mpr ⟨z.1, kj.mpr z.2⟩)), if_pos (by decide)]
        show zh_H ((pf_I N 52 11 20 (1 : Int32)).bind fun M13 => some M13) _
        rw [zp_I eN, Option.bind_some]
        refine zh_some ⟨zT_FM_tr g2 (zT_FM_1 N _ (by omega) (by omega)), he, ?_, ?_, ?_, fun z => by omega⟩
        · rw [zm_II, if_pos ⟨rfl, rfl⟩, ek]; rfl
        · rw [zm_II, if_neg (by omega), g5]
        · rw [zm_II, if_neg (by omega), g4, ej]
    · rw [decide_eq_false (fun z => k1 z.2), if_pos (by decide), t2, Option.bind_some]
      by_cases k2 : 48 ≤ tx.1 (zT_s' tx e) ∧ tx.1 (zT_s' tx e) ≤ 57
      · -- a number
        have ek : zT_k tx e = 2 := by rw [kd]; unfold zT_kd; rw [if_neg k1, if_pos k2]
        have q2 := zT_FM_1 N1 (k := 21) 0 (by omega) (by omega)
        have j18 : mm_I (mm_sI N1 52 21 0) 52 18 = nI (zT_s' tx e) := by rw [zm_II, if_neg (by omega), i18]
        have j19 : mm_I (mm_sI N1 52 21 0) 52 19 = nI (zT_s' tx e) := by rw [zm_II, if_neg (by omega), i19]
        have j21 : mm_I (mm_sI N1 52 21 0) 52 21 = nI (zT_rv tx.1 (zT_s' tx e) (zT_s' tx e - zT_s' tx e)) := by rw [zm_II, if_pos ⟨rfl, rfl⟩, Nat.sub_self]; rfl
        rw [decide_eq_true ⟨c0, k2⟩, if_neg (by decide), zp_I e1, Option.bind_some]
        generalize mm_sI N1 52 21 0 = N2 at q2 j18 j19 j21 ⊢
        refine zh_loop (F := fun fu (σ : Nat × mm_T) => lf_M_next_121 (fun M9 => (pf_I M9 52 11 20 (2 : Int32)).bind fun M10 => some M10) 52 fu σ.2) (fun σ => zT_s' tx e ≤ σ.1 ∧ σ.1 ≤ zT_e tx e ∧ zT_FM M σ.2 ∧ mm_I σ.2 52 18 = nI σ.1 ∧ mm_I σ.2 52 19 = nI (zT_s' tx e) ∧ mm_I σ.2 52 21 = nI (zT_rv tx.1 (zT_s' tx e) (σ.1 - zT_s' tx e))) (fun σ => zT_e tx e - σ.1) ?_ fu_L (zT_s' tx e, N2) ⟨Nat.le_refl _, hel.1, zT_FM_tr f1 q2, j18, j19, j21⟩ (by rw [zs_fuel]; show zT_e tx e - zT_s' tx e < _; omega)
        intro fu σ ⟨g0, g1, g2, g4, g5, g6⟩ k
        obtain ⟨j, N⟩ := σ
        simp only at g0 g1 g2 g4 g5 g6
        have pN := hR.keep g2.1
        have xN := zT_txk hx g2
        have eN := zT_e52 pN
        have lj := lets j 2 ek (Or.inr rfl) g0 g1
        have kj : zT_kd (tx.1 j) = 2 ↔ 48 ≤ tx.1 j ∧ tx.1 j ≤ 57 := by unfold zT_kd; split <;> (try split) <;> (try split) <;> omega
        show zh_H (lb_M_next_121 _ 52 (lf_M_next_121 _ 52 fu) N) _
        unfold lb_M_next_121
        rw [show (48 : Int32) = nI 48 from rfl, show (57 : Int32) = nI 57 from rfl, zT_byteM pN xN g4 (by omega) (by omega) (by omega), Option.bind_some]
        by_cases c : j < zT_e tx e
        · have z := lj.mp c
          have dg := kj.mp z.2
          have rb := zT_rv_ok tx.1 (zT_s' tx e) (j - zT_s' tx e) (fun i hi => zT_dig ((zT_in (Or.inr ek) (by omega) (by omega)).trans ek))
          have er : zT_rv tx.1 (zT_s' tx e) (j + 1 - zT_s' tx e) = if zT_rv tx.1 (zT_s' tx e) (j - zT_s' tx e) ≤ 999999 then 10 * zT_rv tx.1 (zT_s' tx e) (j - zT_s' tx e) + tx.1 j - 48 else zT_rv tx.1 (zT_s' tx e) (j - zT_s' tx e) := by
            rw [show j + 1 - zT_s' tx e = (j - zT_s' tx e) + 1 by omega]
            show (if _ then 10 * _ + tx.1 (zT_s' tx e + (j - zT_s' tx e)) - 48 else _) = _
            rw [show zT_s' tx e + (j - zT_s' tx e) = j by omega]
          have go : ∀ w, w = zT_rv tx.1 (zT_s' tx e) (j + 1 - zT_s' tx e) → zh_H ((pf_I N 52 11 21 (nI w)).bind fun M7 => (gf_I M7 52 11 18).bind fun x15 => (pf_I M7 52 11 18 (x15 + (1 : Int32))).bind fun M8 => lf_M_next_121 (fun M9 => (pf_I M9 52 11 20 (2 : Int32)).bind fun M10 => some M10) 52 fu M8) (fun M' => zT_FM M M' ∧ zT_M M' tx e) := by
            intro w hw
            have e7 : (mm_k (mm_sI N 52 21 (nI w)) 52).1 = 11 := eN
            have a18 : mm_I (mm_sI N 52 21 (nI w)) 52 18 = nI j := by rw [zm_II, if_neg (by omega), g4]
            rw [zp_I eN, Option.bind_some, zg_I e7, Option.bind_some, a18, nI_1, zp_I e7, Option.bind_some]
            refine k (j + 1, _) ⟨by show _ ≤ j + 1; omega, by show j + 1 ≤ _; omega, zT_FM_tr (zT_FM_tr g2 (zT_FM_1 N _ (by omega) (by omega))) (zT_FM_1 _ _ (by omega) (by omega)), ?_, ?_, ?_⟩ (by show zT_e tx e - (j + 1) < zT_e tx e - j; omega)
            · show mm_I (mm_sI _ 52 18 (nI (j + 1))) 52 18 = nI (j + 1); rw [zm_II, if_pos ⟨rfl, rfl⟩]
            · show mm_I (mm_sI _ 52 18 (nI (j + 1))) 52 19 = _; rw [zm_II, if_neg (by omega), zm_II, if_neg (by omega), g5]
            · show mm_I (mm_sI _ 52 18 (nI (j + 1))) 52 21 = nI (zT_rv tx.1 (zT_s' tx e) (j + 1 - zT_s' tx e)); rw [zm_II, if_neg (by omega), zm_II, if_pos ⟨rfl, rfl⟩, hw]
          rw [decide_eq_true ⟨z.1, dg⟩, if_neg (by decide), zg_I eN, Option.bind_some, zq_jp, g6]
          by_cases c9 : zT_rv tx.1 (zT_s' tx e) (j - zT_s' tx e) ≤ 999999
          · rw [if_pos (show _ ≤ (999999 : Int32) from nI_le (b := 999999) c9 (by omega)), Option.bind_some, zg_R eN, Option.bind_some, (zt_r60 pN).1, zg_I eN, Option.bind_some, g4, zT_arM pN xN z.1, Option.bind_some, show (10 : Int32) = nI 10 from rfl, zi_mul, nI_add, zi_sub (b := 48) (by omega)]
            exact go _ (by rw [er, if_pos c9])
          · rw [if_neg (show ¬ _ ≤ (999999 : Int32) from nI_ge (a := 999999) (by omega) (by omega)), Option.bind_some]
            exact go _ (by rw [er, if_neg c9])
        · have ej : j = zT_e tx e := by omega
          rw [decide_eq_false (fun z => c (lj.mpr ⟨z.1, kj.mpr z.2⟩)), if_pos (by decide)]
          show zh_H ((pf_I N 52 11 20 (2 : Int32)).bind fun M13 => some M13) _
          rw [zp_I eN, Option.bind_some]
          refine zh_some ⟨zT_FM_tr g2 (zT_FM_1 N _ (by omega) (by omega)), he, ?_, ?_, ?_, fun _ => ?_⟩
          · rw [zm_II, if_pos ⟨rfl, rfl⟩, ek]; rfl
          · rw [zm_II, if_neg (by omega), g5]
          · rw [zm_II, if_neg (by omega), g4, ej]
          · rw [zm_II, if_neg (by omega), g6, ej]
      · -- one byte
        rw [decide_eq_false (fun z => k2 z.2), if_pos (by decide), t3, Option.bind_some, zq_jp]
        have go : ∀ w, w = zT_k tx e → zT_k tx e ≠ 2 → zT_e tx e = zT_s' tx e + 1 → zh_H ((pf_I N1 52 11 20 (nI w)).bind fun M4 => (gf_I M4 52 11 18).bind fun x11 => (pf_I M4 52 11 18 (x11 + (1 : Int32))).bind fun M5 => some M5) (fun M' => zT_FM M M' ∧ zT_M M' tx e) := by
          intro w hw h2 he'
          have e7 : (mm_k (mm_sI N1 52 20 (nI w)) 52).1 = 11 := e1
          have a18 : mm_I (mm_sI N1 52 20 (nI w)) 52 18 = nI (zT_s' tx e) := by rw [zm_II, if_neg (by omega), i18]
          rw [zp_I e1, Option.bind_some, zg_I e7, Option.bind_some, a18, nI_1, zp_I e7, Option.bind_some]
          refine zh_some ⟨zT_FM_tr (zT_FM_tr f1 (zT_FM_1 N1 _ (by omega) (by omega))) (zT_FM_1 _ _ (by omega) (by omega)), he, ?_, ?_, ?_, fun z => absurd z h2⟩
          · rw [zm_II, if_neg (by omega), zm_II, if_pos ⟨rfl, rfl⟩, hw]
          · rw [zm_II, if_neg (by omega), zm_II, if_neg (by omega), i19]
          · rw [zm_II, if_pos ⟨rfl, rfl⟩, he']
        by_cases k3 : tx.1 (zT_s' tx e) = 59
        · have ek : zT_k tx e = 3 := by rw [kd]; unfold zT_kd; rw [if_neg k1, if_neg k2, if_pos k3]
          rw [decide_eq_true ⟨c0, by omega, by omega⟩, if_neg (by decide)]
          exact go 3 ek.symm (by omega) (by unfold zT_e; rw [if_neg (by omega), if_neg (by omega)])
        · have ek : zT_k tx e = 4 := by rw [kd]; unfold zT_kd; rw [if_neg k1, if_neg k2, if_neg k3]
          rw [decide_eq_false (fun z => k3 (by omega)), if_pos (by decide)]
          exact go 4 ek.symm (by omega) (by unfold zT_e; rw [if_neg (by omega), if_neg (by omega)])
  · have ek : zT_k tx e = 0 := by unfold zT_k; rw [if_neg c0]
    have ee : zT_e tx e = zT_s' tx e := by unfold zT_e; rw [if_pos ek]
    rw [if_pos (by rw [show zT_s' tx e = tx.2 by omega]), zp_I e1, Option.bind_some]
    refine zh_some ⟨zT_FM_tr f1 (zT_FM_1 N1 0 (by omega) (by omega)), he, ?_, ?_, ?_, fun z => by omega⟩
    · rw [zm_II, if_pos ⟨rfl, rfl⟩, ek]; rfl
    · rw [zm_II, if_neg (by omega), i19]
    · rw [zm_II, if_neg (by omega), i18, ee]
end ZTM
