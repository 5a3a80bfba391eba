/-! ===== the first program's parser (copied by copyk.py) ===== -/
def ky_p (M : mm_T) : Prop := mm_k M 41 = (6, 0) ∧ (mm_R M 41 0 = 42 ∧ mm_R M 41 8 = 43 ∧ mm_R M 41 9 = 44) ∧ mm_k M 42 = (20, 700) ∧ mm_k M 43 = (20, 12) ∧ mm_k M 44 = (20, 12)
def ky_x (M : mm_T) (tx : (Nat → Nat) × Nat) : Prop := mm_I M 41 1 = nI tx.2 ∧ tx.2 ≤ 700 ∧ ∀ i, i < tx.2 → mm_I M 42 i = nI (tx.1 i) ∧ tx.1 i < 256
def ky_Ap (a : Nat) : Prop := 41 ≤ a ∧ a ≤ 51
section ZYC1K
variable {M : mm_T} {s : zy_T}
theorem ky_p.keep {M M' : mm_T} {A : Nat → Prop} (h : ky_p M) (hf : zf_F M M' A) : ky_p M' := by
  unfold ky_p
  simp only [zf_k hf, zf_R hf]
  exact h
theorem kT_addC (hp : ky_p M) {tx : (Nat → Nat) × Nat} (hx : ky_x M tx) {b : Nat} (hb : b < 256) (hl : tx.2 < 700) : ∃ M', ff_S_addByte 41 (nI b) M = some M' ∧ zf_F M M' (fun a => a = 41 ∨ a = 42) ∧ ky_x M' (zT_add tx b) ∧ ∀ k, k ≠ 1 → mm_I M' 41 k = mm_I M 41 k := by
  have e9 : (mm_k M 41).1 = 6 := by rw [hp.1]
  unfold ff_S_addByte
  rw [zq_gd e9, zg_R e9, Option.bind_some, hp.2.1.1, zg_I e9, Option.bind_some, hx.1, zd_put hp.2.2.1 hl (by omega), Option.bind_some]
  have e9' : (mm_k (mm_sI M 42 tx.2 (nI b)) 41).1 = 6 := e9
  rw [zg_I e9', Option.bind_some, zp_I e9', Option.bind_some, zm_II, if_neg (by omega), hx.1, nI_1]
  refine ⟨_, rfl, zf_tr (zf_I (Or.inr rfl) _ _) (zf_I (Or.inl rfl) _ _), ⟨?_, by show tx.2 + 1 ≤ 700; omega, fun i hi => ?_⟩, fun k hk => ?_⟩
  · rw [zm_II, if_pos ⟨rfl, rfl⟩]; rfl
  · have hi' : i < tx.2 + 1 := hi
    rw [zm_II, if_neg (by omega), zm_II]
    show _ = nI (if i = tx.2 then b else tx.1 i) ∧ (if i = tx.2 then b else tx.1 i) < 256
    by_cases c : i = tx.2
    · rw [if_pos ⟨rfl, c⟩, if_pos c]; exact ⟨rfl, hb⟩
    · rw [if_neg (fun z => c z.2), if_neg c]; exact hx.2.2 i (by omega)
  · rw [zm_II, if_neg (fun z => hk z.2), zm_II, if_neg (by omega)]
end ZYC1K
def kT_C (M : mm_T) (tx : (Nat → Nat) × Nat) (e : Nat) : Prop := e ≤ tx.2 ∧ mm_I M 41 4 = nI (zT_k tx e) ∧ mm_I M 41 5 = nI (zT_s' tx e) ∧ mm_I M 41 6 = nI (zT_e tx e) ∧ mm_I M 41 7 = nI (zT_v tx e)
def kT_FC (M M' : mm_T) : Prop := zf_F M M' (fun a => a = 41) ∧ ∀ k, k < 4 ∨ 7 < k → mm_I M' 41 k = mm_I M 41 k
theorem kT_FC_rfl (M : mm_T) : kT_FC M M := ⟨zf_rfl _ _, fun _ _ => rfl⟩
theorem kT_FC_tr {M M1 M2 : mm_T} (h : kT_FC M M1) (h2 : kT_FC M1 M2) : kT_FC M M2 := ⟨zf_tr h.1 h2.1, fun k hk => (h2.2 k hk).trans (h.2 k hk)⟩
theorem kT_FC_1 (M : mm_T) {k : Nat} (v : Int32) (h1 : 4 ≤ k) (h2 : k ≤ 7) : kT_FC M (mm_sI M 41 k v) := ⟨zf_I1 _ _ _ _, fun j hj => by rw [zm_II, if_neg (by omega)]⟩
section ZYC2K
variable {M : mm_T} {tx : (Nat → Nat) × Nat}
theorem kT_xk (hx : ky_x M tx) {M' : mm_T} (f : kT_FC M M') : ky_x M' tx := ⟨(f.2 1 (by omega)).trans hx.1, hx.2.1, fun i hi => ⟨(zf_i f.1 (by omega) i).trans (hx.2.2 i hi).1, (hx.2.2 i hi).2⟩⟩
theorem kT_atC (hp : ky_p M) (hx : ky_x M tx) {i : Nat} (hi : i < tx.2) : ff_D_at_a 42 (nI i) M = some (nI (tx.1 i)) := by
  have := hx.2.1
  rw [zd_at hp.2.2.1 (show i < 700 by omega) (by omega), (hx.2.2 i hi).1]
theorem kT_readC (hp : ky_p M) (hx : ky_x M tx) {e : Nat} (he : e ≤ tx.2) (h6 : mm_I M 41 6 = nI e) : ∃ M', ff_S_readToken 41 M = some M' ∧ kT_FC M M' ∧ kT_C M' tx e := by
  have h7 := hx.2.1
  have e9 : (mm_k M 41).1 = 6 := by rw [hp.1]
  have hsle := zT_s_le he
  have hel := zT_e_le he
  have hkl := zT_k_le tx e
  suffices goal : zh_H (ff_S_readToken 41 M) (fun M' => kT_FC M M' ∧ kT_C M' tx e) from goal
  unfold ff_S_readToken
  rw [zq_gd e9, zg_I e9, Option.bind_some, h6, zp_I e9, Option.bind_some]
  -- the blanks
  have aux : ∀ (k0 : mm_T → Option mm_T) (Q : mm_T → Prop), (∀ N, kT_FC M N → mm_I N 41 5 = nI (zT_s' tx e) → zh_H (k0 N) Q) → zh_H (lf_S_readToken_8 k0 41 fu_L (mm_sI M 41 5 (nI e))) Q := by
    intro k0 Q hk
    refine zh_loop (F := fun fu (σ : Nat × mm_T) => lf_S_readToken_8 k0 41 fu σ.2) (fun σ => e ≤ σ.1 ∧ σ.1 ≤ zT_s' tx e ∧ kT_FC M σ.2 ∧ mm_I σ.2 41 5 = nI σ.1) (fun σ => zT_s' tx e - σ.1) ?_ fu_L (e, mm_sI M 41 5 (nI e)) ⟨Nat.le_refl _, zT_s_ge tx e, kT_FC_1 M _ (by omega) (by omega), by show mm_I (mm_sI M 41 5 (nI e)) 41 5 = nI e; rw [zm_II, if_pos ⟨rfl, rfl⟩]⟩ (by rw [zs_fuel]; show zT_s' tx e - e < _; omega)
    intro fu σ ⟨g0, g1, g2, g3⟩ k
    obtain ⟨j, N⟩ := σ
    simp only at g0 g1 g2 g3
    have pN := hp.keep g2.1
    have xN := kT_xk hx g2
    have eN : (mm_k N 41).1 = 6 := by rw [pN.1]
    show zh_H (lb_S_readToken_8 k0 41 (lf_S_readToken_8 k0 41 fu) N) _
    unfold lb_S_readToken_8
    simp only [zg_I eN, zg_R eN, Option.bind_some, g3, xN.1, pN.2.1.1]
    by_cases c : j < tx.2
    · rw [if_neg (nI_ge c (by omega)), kT_atC pN xN c, Option.bind_some, zT_blankC (xN.2.2 j c).2, Option.bind_some]
      by_cases d : j < zT_s' tx e
      · rw [zT_s_lo g0 d, if_neg (by decide), nI_1, zp_I eN, Option.bind_some]
        exact k (j + 1, _) ⟨by show e ≤ j + 1; omega, by show j + 1 ≤ _; omega, kT_FC_tr g2 (kT_FC_1 N _ (by omega) (by omega)), by show mm_I (mm_sI N 41 5 (nI (j + 1))) 41 5 = nI (j + 1); rw [zm_II, if_pos ⟨rfl, rfl⟩]⟩ (by show zT_s' tx e - (j + 1) < zT_s' tx e - j; omega)
      · have ej : j = zT_s' tx e := by omega
        subst ej
        rw [zT_s_hi he c, if_pos (by decide)]
        exact hk N g2 g3
    · rw [if_pos (nI_le (by omega) (by omega))]
      have ej : j = zT_s' tx e := by omega
      subst ej
      exact hk N g2 g3
  refine aux _ _ (fun N f g5 => ?_)
  have pN := hp.keep f.1
  have xN := kT_xk hx f
  have eN : (mm_k N 41).1 = 6 := by rw [pN.1]
  show zh_H ((gf_I N 41 6 5).bind _) _
  rw [zg_I eN, Option.bind_some, g5, zg_I eN, Option.bind_some, xN.1, zq_jp]
  have tail : ∀ kd, kd = zT_k tx e → zh_H ((pf_I N 41 6 4 (nI kd)).bind fun M4 => (pf_I M4 41 6 7 (0 : Int32)).bind fun M5 => (gf_I M5 41 6 5).bind fun x12 => (pf_I M5 41 6 6 x12).bind fun M6 => lf_S_readToken_95 41 fu_L M6) (fun M' => kT_FC M M' ∧ kT_C M' tx e) := by
    intro kd ekd
    subst ekd
    have q1 := kT_FC_1 N (k := 4) (nI (zT_k tx e)) (by omega) (by omega)
    have p1 := pN.keep q1.1
    have q2 := kT_FC_tr q1 (kT_FC_1 _ (k := 7) 0 (by omega) (by omega))
    have p2 := pN.keep q2.1
    have i5 : mm_I (mm_sI (mm_sI N 41 4 (nI (zT_k tx e))) 41 7 0) 41 5 = nI (zT_s' tx e) := by rw [zm_II, if_neg (by omega), zm_II, if_neg (by omega), g5]
    rw [zp_I eN, Option.bind_some, zp_I (by rw [p1.1]), Option.bind_some, zg_I (by rw [p2.1]), Option.bind_some, i5, zp_I (by rw [p2.1]), Option.bind_some]
    have q3 := kT_FC_tr q2 (kT_FC_1 _ (k := 6) (nI (zT_s' tx e)) (by omega) (by omega))
    have i4 : mm_I (mm_sI (mm_sI (mm_sI N 41 4 (nI (zT_k tx e))) 41 7 0) 41 6 (nI (zT_s' tx e))) 41 4 = nI (zT_k tx e) := by rw [zm_II, if_neg (by omega), zm_II, if_neg (by omega), zm_II, if_pos ⟨rfl, rfl⟩]
    have i5' : mm_I (mm_sI (mm_sI (mm_sI N 41 4 (nI (zT_k tx e))) 41 7 0) 41 6 (nI (zT_s' tx e))) 41 5 = nI (zT_s' tx e) := by rw [zm_II, if_neg (by omega), i5]
    have i6 : mm_I (mm_sI (mm_sI (mm_sI N 41 4 (nI (zT_k tx e))) 41 7 0) 41 6 (nI (zT_s' tx e))) 41 6 = nI (zT_s' tx e) := by rw [zm_II, if_pos ⟨rfl, rfl⟩]
    have i7 : mm_I (mm_sI (mm_sI (mm_sI N 41 4 (nI (zT_k tx e))) 41 7 0) 41 6 (nI (zT_s' tx e))) 41 7 = 0 := by rw [zm_II, if_neg (by omega), zm_II, if_pos ⟨rfl, rfl⟩]
    generalize mm_sI (mm_sI (mm_sI N 41 4 (nI (zT_k tx e))) 41 7 0) 41 6 (nI (zT_s' tx e)) = N3 at q3 i4 i5' i6 i7 ⊢
    refine zh_loop (F := fun fu (σ : Nat × mm_T) => lf_S_readToken_95 41 fu σ.2) (fun σ => zT_s' tx e ≤ σ.1 ∧ σ.1 ≤ zT_e tx e ∧ kT_FC M σ.2 ∧ mm_I σ.2 41 4 = nI (zT_k tx e) ∧ mm_I σ.2 41 5 = nI (zT_s' tx e) ∧ mm_I σ.2 41 6 = nI σ.1 ∧ mm_I σ.2 41 7 = nI (if zT_k tx e = 2 then zT_val tx.1 (zT_s' tx e) (σ.1 - zT_s' tx e) else 0)) (fun σ => zT_e tx e - σ.1) ?_ fu_L (zT_s' tx e, N3) ⟨Nat.le_refl _, hel.1, kT_FC_tr f q3, i4, i5', i6, by
      show mm_I N3 41 7 = nI (if zT_k tx e = 2 then zT_val tx.1 (zT_s' tx e) (zT_s' tx e - zT_s' tx e) else 0)
      rw [i7, Nat.sub_self]
      split <;> rfl⟩ (by rw [zs_fuel]; show zT_e tx e - zT_s' tx e < _; omega)
    intro fu σ ⟨g0, g1, g2, g4, g5, g6, g7⟩ k
    obtain ⟨j, N⟩ := σ
    simp only at g0 g1 g2 g4 g5 g6 g7
    have pN := hp.keep g2.1
    have xN := kT_xk hx g2
    have eN : (mm_k N 41).1 = 6 := by rw [pN.1]
    have done : j = zT_e tx e → zh_H (some N) (fun M' => kT_FC M M' ∧ kT_C M' tx e) := by
      intro ej
      subst ej
      refine zh_some ⟨g2, he, g4, g5, g6, ?_⟩
      rw [g7]
      rfl
    show zh_H (lb_S_readToken_95 41 (lf_S_readToken_95 41 fu) N) _
    unfold lb_S_readToken_95
    simp only [zg_I eN, zg_R eN, Option.bind_some, g4, g5, g6, g7, xN.1, pN.2.1.1, zq_jp]
    by_cases c : j < tx.2
    · rw [if_neg (nI_ge c (by omega)), kT_atC pN xN c, Option.bind_some, zT_kindC (xN.2.2 j c).2, Option.bind_some, Option.bind_some]
      have kdp := zT_kd_pos (tx.1 j)
      by_cases d : zT_kd (tx.1 j) = zT_k tx e
      · rw [if_pos (by rw [d])]
        have k0 : zT_k tx e ≠ 0 := by omega
        -- the step
        have step : j < zT_e tx e → zh_H (if nI (zT_k tx e) = (2 : Int32) then (ff_JM_min (nI (if zT_k tx e = 2 then zT_val tx.1 (zT_s' tx e) (j - zT_s' tx e) else 0) * 10 + nI (tx.1 j) - 48) 1000 N).bind fun x28 => (pf_I N 41 6 7 x28).bind fun M9 => (gf_I M9 41 6 6).bind fun x23 => (pf_I M9 41 6 6 (x23 + 1)).bind fun M8 => lf_S_readToken_95 41 fu M8 else (pf_I N 41 6 6 (nI j + 1)).bind fun M8 => lf_S_readToken_95 41 fu M8) (fun M' => kT_FC M M' ∧ kT_C M' tx e) := by
          intro hj
          by_cases c2 : zT_k tx e = 2
          · have hd := zT_dig (b := tx.1 j) (by rw [d]; exact c2)
            have hv := zT_val_le tx.1 (zT_s' tx e) (j - zT_s' tx e)
            rw [if_pos (show nI (zT_k tx e) = (2 : Int32) by rw [c2]; rfl), if_pos c2, show (10 : Int32) = nI 10 from rfl, zi_mul, nI_add, show (48 : Int32) = nI 48 from rfl, zi_sub (by omega)]
            have em : ff_JM_min (nI (zT_val tx.1 (zT_s' tx e) (j - zT_s' tx e) * 10 + tx.1 j - 48)) 1000 N = some (nI (zT_val tx.1 (zT_s' tx e) (j - zT_s' tx e + 1))) := by
              unfold ff_JM_min
              show _ = some (nI (min (zT_val tx.1 (zT_s' tx e) (j - zT_s' tx e) * 10 + (tx.1 (zT_s' tx e + (j - zT_s' tx e)) - 48)) 1000))
              rw [show zT_s' tx e + (j - zT_s' tx e) = j by omega]
              by_cases m : 1000 < zT_val tx.1 (zT_s' tx e) (j - zT_s' tx e) * 10 + tx.1 j - 48
              · rw [if_pos (show (1000 : Int32) < nI _ from nI_lt (a := 1000) m (by omega)), Nat.min_eq_right (by omega)]; rfl
              · rw [if_neg (show ¬ (1000 : Int32) < nI _ from nI_nlt (a := 1000) (by omega) (by omega)), Nat.min_eq_left (by omega)]
                congr 2
                omega
            rw [em, Option.bind_some, zp_I eN, Option.bind_some]
            have r1 := kT_FC_1 N (k := 7) (nI (zT_val tx.1 (zT_s' tx e) (j - zT_s' tx e + 1))) (by omega) (by omega)
            have pr1 := pN.keep r1.1
            rw [zg_I (by rw [pr1.1]), Option.bind_some, zm_II, if_neg (by omega), g6, nI_1, zp_I (by rw [pr1.1]), Option.bind_some]
            refine k (j + 1, _) ⟨by show _ ≤ j + 1; omega, by show j + 1 ≤ _; omega, kT_FC_tr g2 (kT_FC_tr r1 (kT_FC_1 _ _ (by omega) (by omega))), ?_, ?_, ?_, ?_⟩ (by show zT_e tx e - (j + 1) < zT_e tx e - j; omega)
            · show mm_I (mm_sI (mm_sI N 41 7 _) 41 6 _) 41 4 = _
              rw [zm_II, if_neg (by omega), zm_II, if_neg (by omega), g4]
            · show mm_I (mm_sI (mm_sI N 41 7 _) 41 6 _) 41 5 = _
              rw [zm_II, if_neg (by omega), zm_II, if_neg (by omega), g5]
            · show mm_I (mm_sI (mm_sI N 41 7 _) 41 6 _) 41 6 = nI (j + 1)
              rw [zm_II, if_pos ⟨rfl, rfl⟩]
            · show mm_I (mm_sI (mm_sI N 41 7 _) 41 6 _) 41 7 = nI (if zT_k tx e = 2 then zT_val tx.1 (zT_s' tx e) (j + 1 - zT_s' tx e) else 0)
              rw [zm_II, if_neg (by omega), zm_II, if_pos ⟨rfl, rfl⟩, if_pos c2, show j + 1 - zT_s' tx e = j - zT_s' tx e + 1 by omega]
          · rw [if_neg (show ¬ nI (zT_k tx e) = (2 : Int32) from fun z => c2 ((nI_eq (b := 2) (by omega) (by omega)).mp z)), nI_1, zp_I eN, Option.bind_some]
            refine k (j + 1, _) ⟨by show _ ≤ j + 1; omega, by show j + 1 ≤ _; omega, kT_FC_tr g2 (kT_FC_1 _ _ (by omega) (by omega)), ?_, ?_, ?_, ?_⟩ (by show zT_e tx e - (j + 1) < zT_e tx e - j; omega)
            · show mm_I (mm_sI N 41 6 _) 41 4 = _
              rw [zm_II, if_neg (by omega), g4]
            · show mm_I (mm_sI N 41 6 _) 41 5 = _
              rw [zm_II, if_neg (by omega), g5]
            · show mm_I (mm_sI N 41 6 _) 41 6 = nI (j + 1)
              rw [zm_II, if_pos ⟨rfl, rfl⟩]
            · show mm_I (mm_sI N 41 6 _) 41 7 = nI (if zT_k tx e = 2 then zT_val tx.1 (zT_s' tx e) (j + 1 - zT_s' tx e) else 0)
              rw [zm_II, if_neg (by omega), g7, if_neg c2, if_neg c2]
        by_cases js : j = zT_s' tx e
        · rw [if_pos (by rw [js])]
          exact step (by have := hel.2.2 k0; omega)
        · rw [if_neg (fun z => js ((nI_eq (by omega) (by omega)).mp z))]
          unfold ff_S_canGrow
          rw [zq_jp]
          by_cases k1 : zT_k tx e = 1
          · rw [if_pos (by rw [k1]; rfl), Option.bind_some, if_neg (by decide)]
            refine step ?_
            rcases Nat.lt_or_ge j (zT_e tx e) with q | q
            · exact q
            · have ej : j = zT_e tx e := by omega
              exact absurd (ej ▸ d) (zT_out he (Or.inl k1) (by omega))
          · rw [if_neg (show ¬ nI (zT_k tx e) = (1 : Int32) from fun z => k1 ((nI_eq (b := 1) (by omega) (by omega)).mp z))]
            by_cases k2 : zT_k tx e = 2
            · rw [if_pos (show nI (zT_k tx e) = (2 : Int32) by rw [k2]; rfl), Option.bind_some, if_neg (by decide)]
              refine step ?_
              rcases Nat.lt_or_ge j (zT_e tx e) with q | q
              · exact q
              · have ej : j = zT_e tx e := by omega
                exact absurd (ej ▸ d) (zT_out he (Or.inr k2) (by omega))
            · rw [if_neg (show ¬ nI (zT_k tx e) = (2 : Int32) from fun z => k2 ((nI_eq (b := 2) (by omega) (by omega)).mp z)), Option.bind_some, if_pos rfl]
              refine done ?_
              have : zT_e tx e = zT_s' tx e + 1 := by unfold zT_e; rw [if_neg k0, if_neg (by omega)]
              omega
      · rw [if_neg (fun z => d ((nI_eq (by omega) (by omega)).mp z))]
        refine done ?_
        rcases Nat.lt_or_ge j (zT_e tx e) with q | q
        · exfalso
          by_cases k0 : zT_k tx e = 0
          · have : zT_e tx e = zT_s' tx e := by unfold zT_e; rw [if_pos k0]
            omega
          · by_cases k2 : zT_k tx e ≤ 2
            · exact d (zT_in (by omega) g0 q)
            · have : zT_e tx e = zT_s' tx e + 1 := by unfold zT_e; rw [if_neg k0, if_neg k2]
              have ej : j = zT_s' tx e := by omega
              apply d
              rw [ej]
              unfold zT_k
              rw [if_pos (zT_k0.mp k0)]
        · omega
    · rw [if_pos (nI_le (by omega) (by omega))]
      exact done (by omega)
  by_cases c : zT_s' tx e < tx.2
  · rw [if_neg (nI_ge c (by omega)), zg_R eN, Option.bind_some, pN.2.1.1, Option.bind_some, kT_atC pN xN c, Option.bind_some, zT_kindC (xN.2.2 _ c).2, Option.bind_some]
    exact tail _ (by unfold zT_k; rw [if_pos c])
  · rw [if_pos (nI_le (by omega) (by omega))]
    exact tail 0 (by unfold zT_k; rw [if_neg c])
end ZYC2K
def kP_X (M M' : mm_T) (tx : (Nat → Nat) × Nat) (c : Nat) (q : Int32) : Prop := zf_F M M' (fun a => a = 41) ∧ ky_x M' tx ∧ (∃ e, kT_C M' tx e) ∧ mm_I M' 41 2 = nI c ∧ mm_I M' 41 3 = q
def kP_V (X : Option (Int32 × mm_T)) (M : mm_T) (tx : (Nat → Nat) × Nat) (r : (Nat × Nat) ⊕ zT_R) : Prop := match r with
  | .inl a => ∃ M', X = some (nI a.1, M') ∧ kT_FC M M' ∧ kT_C M' tx a.2
  | .inr a => ∃ w M', X = some (w, M') ∧ kP_X M M' tx a.1 (nI a.2)
def kP_U (X : Option mm_T) (M : mm_T) (tx : (Nat → Nat) × Nat) (r : Nat ⊕ zT_R) : Prop := match r with
  | .inl e => ∃ M', X = some M' ∧ kT_FC M M' ∧ kT_C M' tx e
  | .inr a => ∃ M', X = some M' ∧ kP_X M M' tx a.1 (nI a.2)
section ZYC3K
variable {M : mm_T} {tx : (Nat → Nat) × Nat} {e : Nat}
theorem kP_e9 (hp : ky_p M) : (mm_k M 41).1 = 6 := by rw [hp.1]
theorem kT_isWC (hp : ky_p M) (hx : ky_x M tx) (hT : kT_C M tx e) {i : Nat} (hi : i < 31) : ff_S_isWord 41 (st_B + i) M = some (zb_B (decide (zT_W tx e i))) := by
  have h7 := hx.2.1
  have e9 := kP_e9 hp
  have el := zW_tl i hi
  have hel := zT_e_le hT.1
  have hsl := zT_s_le hT.1
  have hkl := zT_k_le tx e
  have len : ff_JS_length (st_B + i) M = some (nI (gs_len.getD i 0)) := by
    unfold ff_JS_length
    rw [if_pos ⟨by omega, by unfold gs_N; omega⟩, Nat.add_sub_cancel_left]
    rfl
  have l31 : ∀ i, i < 31 → gs_len.getD i 0 < 200 := by decide +kernel
  have hb := l31 i hi
  unfold ff_S_isWord
  rw [zq_gd e9, zg_I e9, Option.bind_some, hT.2.1]
  by_cases c1 : zT_k tx e = 1
  · rw [if_pos (by rw [c1]; rfl), zg_I e9, Option.bind_some, hT.2.2.2.1, zg_I e9, Option.bind_some, hT.2.2.1, len, Option.bind_some, zi_sub hel.1]
    by_cases c2 : zT_e tx e - zT_s' tx e = (zW_t i).length
    · rw [if_pos (by rw [c2, el])]
      refine zh_is (zh_up (F := fun fu j (_ : Unit) => lf_S_isWord_28 41 (st_B + i) M fu j) (Q := fun y => y = zb_B (decide (zT_W tx e i))) (gs_len.getD i 0) (fun j _ => ∀ k, k < j → tx.1 (zT_s' tx e + k) = (zW_t i).getD k 0) ?_ ?_ fu_L 0 () (Nat.zero_le _) (by rw [zs_fuel]; omega) (fun k hk => absurd hk (Nat.not_lt_zero _)))
      · intro fu j _ hj g k
        obtain ⟨c3, c4⟩ := zW_tc i hi j hj
        have ch : ff_JS_charAt (st_B + i) (nI j) M = some (nI ((zW_t i).getD j 0)) := by
          have e := nI_toInt (n := j) (by omega)
          unfold ff_JS_charAt
          rw [e, Nat.add_sub_cancel_left, if_pos ⟨⟨by omega, by unfold gs_N; omega⟩, by omega, by omega⟩, Int.toNat_natCast, c3]
        have hin : zT_s' tx e + j < tx.2 := by omega
        have h256 := (hx.2.2 _ hin).2
        show zh_H (lb_S_isWord_28 41 (st_B + i) M (lf_S_isWord_28 41 (st_B + i) M fu) (nI j)) _
        unfold lb_S_isWord_28
        rw [len, Option.bind_some, if_neg (nI_ge hj (by omega)), zg_R e9, Option.bind_some, hp.2.1.1, zg_I e9, Option.bind_some, hT.2.2.1, nI_add, kT_atC hp hx hin, Option.bind_some, ch, Option.bind_some]
        by_cases c5 : tx.1 (zT_s' tx e + j) = (zW_t i).getD j 0
        · rw [if_pos (by rw [c5]), Option.bind_some, nI_1]
          refine k () (fun x hx => ?_)
          rcases Nat.lt_or_ge x j with q | q
          · exact g x q
          · rw [show x = j by omega]; exact c5
        · rw [if_neg (fun z => c5 ((nI_eq (by omega) (by omega)).mp z)), decide_eq_false (fun z => c5 (z.2.2 j (by omega)))]
          exact zh_some rfl
      · intro fu _ g
        show zh_H (lb_S_isWord_28 41 (st_B + i) M (lf_S_isWord_28 41 (st_B + i) M fu) (nI (gs_len.getD i 0))) _
        unfold lb_S_isWord_28
        rw [len, Option.bind_some, if_pos (nI_le (Nat.le_refl _) (by omega)), decide_eq_true ⟨c1, c2, fun j hj => g j (by omega)⟩]
        exact zh_some rfl
    · rw [if_neg (fun z => c2 (by rw [el]; exact (nI_eq (by omega) (by omega)).mp z)), decide_eq_false (fun z => c2 z.2.1)]
      rfl
  · rw [if_neg (show ¬ nI (zT_k tx e) = (1 : Int32) from fun z => c1 ((nI_eq (b := 1) (by omega) (by omega)).mp z)), decide_eq_false (fun z => c1 z.1)]
    rfl
theorem kT_readC' (hp : ky_p M) (hx : ky_x M tx) (hT : kT_C M tx e) : ∃ M', ff_S_readToken 41 M = some M' ∧ kT_FC M M' ∧ kT_C M' tx (zT_e tx e) := kT_readC hp hx (zT_e_le hT.1).2.1 hT.2.2.2.1
theorem kP_fail (hp : ky_p M) (hx : ky_x M tx) (hT : kT_C M tx e) (h2 : mm_I M 41 2 = 0) (c p : Nat) : ∃ M', ff_S_fail 41 (nI c) (nI p) M = some M' ∧ kP_X M M' tx c (nI p) := by
  have e9 := kP_e9 hp
  unfold ff_S_fail
  have e9' : (mm_k (mm_sI M 41 2 (nI c)) 41).1 = 6 := e9
  rw [zq_gd e9, zg_I e9, Option.bind_some, h2, if_pos rfl, zp_I e9, Option.bind_some, zp_I e9', Option.bind_some]
  have j : ∀ k, k ≠ 2 → k ≠ 3 → mm_I (mm_sI (mm_sI M 41 2 (nI c)) 41 3 (nI p)) 41 k = mm_I M 41 k := fun k z1 z2 => by rw [zm_II, if_neg (fun z => z2 z.2), zm_II, if_neg (fun z => z1 z.2)]
  refine ⟨_, rfl, zf_tr (zf_I1 _ _ _ _) (zf_I1 _ _ _ _), ⟨(j 1 (by omega) (by omega)).trans hx.1, hx.2.1, fun i hi => ⟨by rw [zm_II, if_neg (by omega), zm_II, if_neg (by omega)]; exact (hx.2.2 i hi).1, (hx.2.2 i hi).2⟩⟩, ⟨e, hT.1, (j 4 (by omega) (by omega)).trans hT.2.1, (j 5 (by omega) (by omega)).trans hT.2.2.1, (j 6 (by omega) (by omega)).trans hT.2.2.2.1, (j 7 (by omega) (by omega)).trans hT.2.2.2.2⟩, ?_, ?_⟩
  · rw [zm_II, if_neg (by omega), zm_II, if_pos ⟨rfl, rfl⟩]
  · rw [zm_II, if_pos ⟨rfl, rfl⟩]
theorem kP_fail2 (hp : ky_p M) (h2 : mm_I M 41 2 ≠ 0) (c p : Int32) : ff_S_fail 41 c p M = some M := by
  have e9 := kP_e9 hp
  unfold ff_S_fail
  rw [zq_gd e9, zg_I e9, Option.bind_some, if_neg h2]
def kP_D (M : mm_T) (tx : (Nat → Nat) × Nat) (c : Nat) (q : Int32) : Prop := ky_p M ∧ ky_x M tx ∧ (∃ e, kT_C M tx e) ∧ mm_I M 41 2 = nI c ∧ mm_I M 41 3 = q ∧ 0 < c ∧ c < 5
theorem kP_D.ne {c : Nat} {q : Int32} (h : kP_D M tx c q) : mm_I M 41 2 ≠ 0 := by rw [h.2.2.2.1]; exact nI_ne0 h.2.2.2.2.2.1 (by have := h.2.2.2.2.2.2; omega)
theorem kP_D.x {c : Nat} {q : Int32} (h : kP_D M tx c q) : kP_X M M tx c q := ⟨zf_rfl _ _, h.2.1, h.2.2.1, h.2.2.2.1, h.2.2.2.2.1⟩
theorem kP_X.d {M' : mm_T} {c : Nat} {q : Int32} (hp : ky_p M) (h : kP_X M M' tx c q) (h0 : 0 < c) (h5 : c < 5) : kP_D M' tx c q := ⟨hp.keep h.1, h.2.1, h.2.2.1, h.2.2.2.1, h.2.2.2.2, h0, h5⟩
theorem kP_X.tr {M1 M2 : mm_T} {c : Nat} {q : Int32} (f : zf_F M M1 (fun a => a = 41)) (h : kP_X M1 M2 tx c q) : kP_X M M2 tx c q := ⟨zf_tr f h.1, h.2⟩
theorem kP_read {c : Nat} {q : Int32} (h : kP_D M tx c q) : ∃ M', ff_S_readToken 41 M = some M' ∧ kP_X M M' tx c q := by
  obtain ⟨hp, hx, ⟨e, hT⟩, h2, h3, _⟩ := h
  obtain ⟨M', e1, f1, t1⟩ := kT_readC' hp hx hT
  exact ⟨M', e1, f1.1, kT_xk hx f1, ⟨_, t1⟩, (f1.2 2 (by omega)).trans h2, (f1.2 3 (by omega)).trans h3⟩
theorem kP_varD {c : Nat} {q : Int32} (h : kP_D M tx c q) : ∃ w M', ff_S_takeVariable 41 M = some (w, M') ∧ kP_X M M' tx c q := by
  have e9 := kP_e9 h.1
  obtain ⟨e, hT⟩ := h.2.2.1
  have hx := h.2.1
  have h7 := hx.2.1
  have hs := zT_s_le hT.1
  obtain ⟨x, ex⟩ : ∃ x, ff_D_at_a 42 (nI (zT_s' tx e)) M = some x := by
    rcases Nat.lt_or_ge (zT_s' tx e) tx.2 with z | z
    · exact ⟨_, kT_atC h.1 hx z⟩
    · by_cases z2 : zT_s' tx e < 700
      · exact ⟨_, zd_at h.1.2.2.1 z2 (by omega)⟩
      · exact ⟨_, zd_atO h.1.2.2.1 (by omega) (by omega)⟩
  obtain ⟨M1, e1, x1⟩ := kP_read h
  unfold ff_S_takeVariable
  simp only [zq_gd e9, zg_R e9, zg_I e9, Option.bind_some, h.1.2.1.1, hT.2.2.1, ex, zq_jp, kP_fail2 h.1 h.ne, e1]
  split
  · split
    · split
      · exact ⟨_, M1, rfl, x1⟩
      · exact ⟨_, M, rfl, h.x⟩
    · exact ⟨_, M, rfl, h.x⟩
  · exact ⟨_, M, rfl, h.x⟩
theorem kP_numD {c : Nat} {q : Int32} (h : kP_D M tx c q) (m : Int32) : ∃ w M', ff_S_takeNumber 41 m M = some (w, M') ∧ kP_X M M' tx c q := by
  have e9 := kP_e9 h.1
  obtain ⟨M1, e1, x1⟩ := kP_read h
  unfold ff_S_takeNumber
  simp only [zq_gd e9, zg_I e9, Option.bind_some, zq_jp, kP_fail2 h.1 h.ne, e1]
  split
  · split
    · exact ⟨_, M1, rfl, x1⟩
    · exact ⟨_, M, rfl, h.x⟩
  · exact ⟨_, M, rfl, h.x⟩
theorem kP_oprD {c : Nat} {q : Int32} (h : kP_D M tx c q) : ∃ w M', ff_S_takeOperator 41 M = some (w, M') ∧ kP_X M M' tx c q := by
  have e9 := kP_e9 h.1
  obtain ⟨e, hT⟩ := h.2.2.1
  obtain ⟨M1, e1, x1⟩ := kP_read h
  unfold ff_S_takeOperator
  simp only [zq_gd e9, zg_I e9, kT_isWC h.1 h.2.1 hT (show 6 < 31 by omega), kT_isWC h.1 h.2.1 hT (show 7 < 31 by omega), kT_isWC h.1 h.2.1 hT (show 8 < 31 by omega), Option.bind_some, zq_jp, kP_fail2 h.1 h.ne, e1]
  repeat' split
  all_goals first | exact ⟨_, M1, rfl, x1⟩ | exact ⟨_, M, rfl, h.x⟩
theorem kP_semD {c : Nat} {q : Int32} (h : kP_D M tx c q) : ∃ M', ff_S_takeSemicolon 41 M = some M' ∧ kP_X M M' tx c q := by
  have e9 := kP_e9 h.1
  obtain ⟨M1, e1, x1⟩ := kP_read h
  unfold ff_S_takeSemicolon
  simp only [zq_gd e9, zg_I e9, Option.bind_some, kP_fail2 h.1 h.ne, e1]
  split
  · exact ⟨M1, rfl, x1⟩
  · exact ⟨M, rfl, h.x⟩
theorem kP_var (hp : ky_p M) (hx : ky_x M tx) (hT : kT_C M tx e) (h2 : mm_I M 41 2 = 0) : kP_V (ff_S_takeVariable 41 M) M tx (zT_var tx e) := by
  have e9 := kP_e9 hp
  have h7 := hx.2.1
  have hs := zT_s_le hT.1
  have hel := zT_e_le hT.1
  have hkl := zT_k_le tx e
  obtain ⟨M1, e1, f1, t1⟩ := kT_readC' hp hx hT
  obtain ⟨M2, e2, x2⟩ := kP_fail hp hx hT h2 1 (zT_s' tx e)
  have e2' : ff_S_fail 41 1 (nI (zT_s' tx e)) M = some M2 := e2
  have bad : kP_V (some (-1, M2)) M tx (.inr (1, zT_s' tx e)) := ⟨_, M2, rfl, x2⟩
  unfold zT_var
  by_cases c1 : zT_k tx e = 1
  · have hlt : zT_s' tx e < tx.2 := zT_k0.mp (by omega)
    have h256 := (hx.2.2 _ hlt).2
    have hle := zT_let (b := tx.1 (zT_s' tx e)) (by rw [zT_in (Or.inl c1) (Nat.le_refl _) (hel.2.2 (by omega)), c1])
    have ea := kT_atC hp hx hlt
    unfold ff_S_takeVariable
    simp only [zq_gd e9, zg_R e9, zg_I e9, Option.bind_some, hp.2.1.1, hT.2.2.1, ea, zq_jp, hT.2.1, hT.2.2.2.1, e1, e2']
    rw [if_pos (show nI (zT_k tx e) = (1 : Int32) by rw [c1]; rfl), zi_sub hel.1, show (97 : Int32) = nI 97 from rfl, zi_sub hle.1]
    by_cases c2 : zT_e tx e - zT_s' tx e = 1
    · rw [if_pos (by rw [c2]; rfl)]
      by_cases c3 : tx.1 (zT_s' tx e) < 105
      · rw [if_pos (show nI (tx.1 (zT_s' tx e) - 97) < (8 : Int32) from nI_lt (b := 8) (by omega) (by omega)), if_pos ⟨c1, c2, c3⟩]
        exact ⟨M1, rfl, f1, t1⟩
      · rw [if_neg (show ¬ nI (tx.1 (zT_s' tx e) - 97) < (8 : Int32) from nI_nlt (b := 8) (by omega) (by omega)), if_neg (fun z => c3 z.2.2)]
        exact bad
    · rw [if_neg (show ¬ nI (zT_e tx e - zT_s' tx e) = (1 : Int32) from fun z => c2 ((nI_eq (b := 1) (by omega) (by omega)).mp z)), if_neg (fun z => c2 z.2.1)]
      exact bad
  · obtain ⟨x, ex⟩ : ∃ x, ff_D_at_a 42 (nI (zT_s' tx e)) M = some x := by
      by_cases z2 : zT_s' tx e < 700
      · exact ⟨_, zd_at hp.2.2.1 z2 (by omega)⟩
      · exact ⟨_, zd_atO hp.2.2.1 (by omega) (by omega)⟩
    unfold ff_S_takeVariable
    simp only [zq_gd e9, zg_R e9, zg_I e9, Option.bind_some, hp.2.1.1, hT.2.2.1, ex, zq_jp, hT.2.1, e2']
    rw [if_neg (show ¬ nI (zT_k tx e) = (1 : Int32) from fun z => c1 ((nI_eq (b := 1) (by omega) (by omega)).mp z)), if_neg (fun z => c1 z.1)]
    exact bad
theorem kP_num (hp : ky_p M) (hx : ky_x M tx) (hT : kT_C M tx e) (h2 : mm_I M 41 2 = 0) {m : Nat} (hm : m < 1000) : kP_V (ff_S_takeNumber 41 (nI m) M) M tx (zT_num tx m e) := by
  have e9 := kP_e9 hp
  have h7 := hx.2.1
  have hkl := zT_k_le tx e
  have hv := zT_v_le tx e
  obtain ⟨M1, e1, f1, t1⟩ := kT_readC' hp hx hT
  obtain ⟨M2, e2, x2⟩ := kP_fail hp hx hT h2 1 (zT_s' tx e)
  obtain ⟨M3, e3, x3⟩ := kP_fail hp hx hT h2 2 (zT_s' tx e)
  have e2' : ff_S_fail 41 1 (nI (zT_s' tx e)) M = some M2 := e2
  have e3' : ff_S_fail 41 2 (nI (zT_s' tx e)) M = some M3 := e3
  unfold ff_S_takeNumber zT_num
  simp only [zq_gd e9, zg_I e9, Option.bind_some, zq_jp, hT.2.1, hT.2.2.1, hT.2.2.2.2, e1, e2', e3']
  by_cases c1 : zT_k tx e = 2
  · rw [if_pos (show nI (zT_k tx e) = (2 : Int32) by rw [c1]; rfl), if_pos c1]
    by_cases c2 : zT_v tx e ≤ m
    · rw [if_pos (nI_le c2 (by omega)), if_pos c2]
      exact ⟨M1, rfl, f1, t1⟩
    · rw [if_neg (nI_ge (by omega) (by omega)), if_neg c2, if_pos (show nI (zT_k tx e) = (2 : Int32) by rw [c1]; rfl)]
      exact ⟨_, M3, rfl, x3⟩
  · have n2 : ¬ nI (zT_k tx e) = (2 : Int32) := fun z => c1 ((nI_eq (b := 2) (by omega) (by omega)).mp z)
    rw [if_neg n2, if_neg c1, if_neg n2]
    exact ⟨_, M2, rfl, x2⟩
theorem kP_opr (hp : ky_p M) (hx : ky_x M tx) (hT : kT_C M tx e) (h2 : mm_I M 41 2 = 0) : kP_V (ff_S_takeOperator 41 M) M tx (zT_opr tx e) := by
  have e9 := kP_e9 hp
  obtain ⟨M1, e1, f1, t1⟩ := kT_readC' hp hx hT
  obtain ⟨M2, e2, x2⟩ := kP_fail hp hx hT h2 1 (zT_s' tx e)
  have e2' : ff_S_fail 41 1 (nI (zT_s' tx e)) M = some M2 := e2
  unfold ff_S_takeOperator zT_opr
  simp only [zq_gd e9, zg_I e9, kT_isWC hp hx hT (show 6 < 31 by omega), kT_isWC hp hx hT (show 7 < 31 by omega), kT_isWC hp hx hT (show 8 < 31 by omega), Option.bind_some, zq_jp, hT.2.2.1, e1, e2', zb_0, decide_eq_false_iff_not]
  by_cases c6 : zT_W tx e 6
  · rw [if_neg (fun z => z c6), if_pos c6, if_neg (by decide)]
    exact ⟨M1, rfl, f1, t1⟩
  · rw [if_pos c6, if_neg c6]
    by_cases c7 : zT_W tx e 7
    · rw [if_neg (fun z => z c7), if_pos c7, if_neg (by decide)]
      exact ⟨M1, rfl, f1, t1⟩
    · rw [if_pos c7, if_neg c7]
      by_cases c8 : zT_W tx e 8
      · rw [if_neg (fun z => z c8), if_pos c8, if_neg (by decide)]
        exact ⟨M1, rfl, f1, t1⟩
      · rw [if_pos c8, if_neg c8, if_pos trivial]
        exact ⟨_, M2, rfl, x2⟩
theorem kP_sem (hp : ky_p M) (hx : ky_x M tx) (hT : kT_C M tx e) (h2 : mm_I M 41 2 = 0) : kP_U (ff_S_takeSemicolon 41 M) M tx (zT_sem tx e) := by
  have e9 := kP_e9 hp
  have hkl := zT_k_le tx e
  obtain ⟨M1, e1, f1, t1⟩ := kT_readC' hp hx hT
  obtain ⟨M2, e2, x2⟩ := kP_fail hp hx hT h2 1 (zT_s' tx e)
  have e2' : ff_S_fail 41 1 (nI (zT_s' tx e)) M = some M2 := e2
  unfold ff_S_takeSemicolon zT_sem
  simp only [zq_gd e9, zg_I e9, Option.bind_some, hT.2.1, hT.2.2.1, e1, e2']
  by_cases c : zT_k tx e = 3
  · rw [if_pos (by rw [c]; rfl), if_pos c]
    exact ⟨M1, rfl, f1, t1⟩
  · rw [if_neg (show ¬ nI (zT_k tx e) = (3 : Int32) from fun z => c ((nI_eq (b := 3) (by omega) (by omega)).mp z)), if_neg c]
    exact ⟨M2, rfl, x2⟩
end ZYC3K
def kQ_F (M : mm_T) (F : Nat → Nat × Nat) (Q : zp_T) (m : Nat) : Prop := ∀ b, b < m → (1 ≤ zp_w Q b → mm_I M 43 b = nI (F b).1) ∧ (zp_w Q b = 2 → mm_I M 44 b = nI (F b).2)
def kQ_S (M0 M : mm_T) (tx : (Nat → Nat) × Nat) (Q : zp_T) (F : Nat → Nat × Nat) (m e : Nat) : Prop := zf_F M0 M ky_Ap ∧ ky_x M tx ∧ kT_C M tx e ∧ mm_I M 41 2 = 0 ∧ mm_I M 41 3 = -1 ∧ zQ_H M 45 Q m ∧ kQ_F M F Q m ∧ zQ_V Q m
def kQ_E (M0 M : mm_T) (tx : (Nat → Nat) × Nat) (c p : Nat) : Prop := (zf_F M0 M ky_Ap ∧ ∃ n, n ≤ 12 ∧ mm_I M 45 0 = nI n) ∧ kP_D M tx c (nI p)
section ZQSK
variable {M0 M : mm_T} {tx : (Nat → Nat) × Nat} {Q : zp_T} {F : Nat → Nat × Nat} {m e : Nat}
theorem kQ_p (hp0 : ky_p M0) (h : kQ_S M0 M tx Q F m e) : ky_p M := hp0.keep h.1
theorem kQ_ofX (hp0 : ky_p M0) (h : kQ_S M0 M tx Q F m e) {M' : mm_T} {c p : Nat} (x : kP_X M M' tx c (nI p)) (h0 : 0 < c) (h5 : c < 5) : kQ_E M0 M' tx c p := ⟨⟨zf_tr h.1 (zf_mono x.1 (fun a z => by unfold ky_Ap; omega)), zp_nb Q, h.2.2.2.2.2.2.2.1, (zf_i x.1 (by omega) 0).trans h.2.2.2.2.2.1.1⟩, x.d (kQ_p hp0 h) h0 h5⟩
theorem kQ_ofFC (h : kQ_S M0 M tx Q F m e) {M' : mm_T} {e' : Nat} (f : kT_FC M M') (t : kT_C M' tx e') : kQ_S M0 M' tx Q F m e' := ⟨zf_tr h.1 (zf_mono f.1 (fun a z => by unfold ky_Ap; omega)), kT_xk h.2.1 f, t, (f.2 2 (by omega)).trans h.2.2.2.1, (f.2 3 (by omega)).trans h.2.2.2.2.1, h.2.2.2.2.2.1.keep (fun a q1 q2 k => zf_i f.1 (by omega) k), fun b hb => by rw [zf_i f.1 (by omega), zf_i f.1 (by omega)]; exact h.2.2.2.2.2.2.1 b hb, h.2.2.2.2.2.2.2⟩
theorem kQ_EX {c p : Nat} (h : kQ_E M0 M tx c p) {M' : mm_T} (x : kP_X M M' tx c (nI p)) : kQ_E M0 M' tx c p := ⟨⟨zf_tr h.1.1 (zf_mono x.1 (fun a z => by unfold ky_Ap; omega)), h.1.2.imp fun n z => ⟨z.1, (zf_i x.1 (by omega) 0).trans z.2⟩⟩, x.d h.2.1 h.2.2.2.2.2.2.1 h.2.2.2.2.2.2.2⟩
theorem kQ_Ek {c p : Nat} (h : kQ_E M0 M tx c p) {M' : mm_T} {A : Nat → Prop} (f : zf_F M M' A) (hA : ∀ a, A a → (45 ≤ a ∧ a ≤ 51) ∨ a = 43 ∨ a = 44) (h20 : mm_I M' 45 0 = mm_I M 45 0) : kQ_E M0 M' tx c p := by
  obtain ⟨⟨h1, n, n12, hn⟩, hp, hx, ⟨e, hT⟩, h2, h3, h4⟩ := h
  have n9 : ¬ A 41 := fun z => by have := hA 41 z; omega
  have n10 : ¬ A 42 := fun z => by have := hA 42 z; omega
  exact ⟨⟨zf_tr h1 (zf_mono f (fun a z => by have := hA a z; unfold ky_Ap; omega)), n, n12, h20.trans hn⟩, hp.keep f, ⟨(zf_i f n9 1).trans hx.1, hx.2.1, fun i hi => ⟨(zf_i f n10 i).trans (hx.2.2 i hi).1, (hx.2.2 i hi).2⟩⟩, ⟨e, hT.1, (zf_i f n9 4).trans hT.2.1, (zf_i f n9 5).trans hT.2.2.1, (zf_i f n9 6).trans hT.2.2.2.1, (zf_i f n9 7).trans hT.2.2.2.2⟩, (zf_i f n9 2).trans h2, (zf_i f n9 3).trans h3, h4⟩
theorem kQ_Sk (h : kQ_S M0 M tx Q F m e) {M' : mm_T} {A : Nat → Prop} (f : zf_F M M' A) (hA : ∀ a, A a → (45 ≤ a ∧ a ≤ 51) ∨ a = 43 ∨ a = 44) {Q' : zp_T} {F' : Nat → Nat × Nat} {m' : Nat} (hH : zQ_H M' 45 Q' m') (hF : kQ_F M' F' Q' m') (hV : zQ_V Q' m') : kQ_S M0 M' tx Q' F' m' e := by
  obtain ⟨h1, hx, hT, h2, h3, _⟩ := h
  have n9 : ¬ A 41 := fun z => by have := hA 41 z; omega
  have n10 : ¬ A 42 := fun z => by have := hA 42 z; omega
  exact ⟨zf_tr h1 (zf_mono f (fun a z => by have := hA a z; unfold ky_Ap; omega)), ⟨(zf_i f n9 1).trans hx.1, hx.2.1, fun i hi => ⟨(zf_i f n10 i).trans (hx.2.2 i hi).1, (hx.2.2 i hi).2⟩⟩, ⟨hT.1, (zf_i f n9 4).trans hT.2.1, (zf_i f n9 5).trans hT.2.2.1, (zf_i f n9 6).trans hT.2.2.2.1, (zf_i f n9 7).trans hT.2.2.2.2⟩, (zf_i f n9 2).trans h2, (zf_i f n9 3).trans h3, hH, hF, hV⟩
def kQ_1 (M0 : mm_T) (tx : (Nat → Nat) × Nat) (F : Nat → Nat × Nat) (m : Nat) (r : (zp_T × Nat) ⊕ zT_R) (M' : mm_T) : Prop := match r with
  | .inl a => kQ_S M0 M' tx a.1 F m a.2
  | .inr a => kQ_E M0 M' tx a.1 a.2
theorem kQ_sem (hp0 : ky_p M0) (h : kQ_S M0 M tx Q F m e) : ∃ M', ff_S_takeSemicolon 41 M = some M' ∧ kQ_1 M0 tx F m (zT_bind (zT_sem tx e) fun e' => .inl (Q, e')) M' := by
  have r := kP_sem (kQ_p hp0 h) h.2.1 h.2.2.1 h.2.2.2.1
  cases er : zT_sem tx e with
  | inl e' =>
    rw [er] at r
    obtain ⟨M', e1, f1, t1⟩ := r
    exact ⟨M', e1, kQ_ofFC h f1 t1⟩
  | inr a =>
    have h5 : 0 < a.1 ∧ a.1 < 5 := by
      unfold zT_sem at er
      split at er
      · cases er
      · cases er; exact ⟨by show 0 < 1; omega, by show 1 < 5; omega⟩
    rw [er] at r
    obtain ⟨M', e1, x1⟩ := r
    exact ⟨M', e1, kQ_ofX hp0 h x1 h5.1 h5.2⟩
theorem kQ_semE {c p : Nat} (h : kQ_E M0 M tx c p) : ∃ M', ff_S_takeSemicolon 41 M = some M' ∧ kQ_E M0 M' tx c p := by
  obtain ⟨M', e1, x1⟩ := kP_semD h.2
  exact ⟨M', e1, kQ_EX h x1⟩
theorem kQ_take {β : Type} {X : Option (Int32 × mm_T)} {r : (Nat × Nat) ⊕ zT_R} (hp0 : ky_p M0) (h : kQ_S M0 M tx Q F m e) (hX : kP_V X M tx r) (her : ∀ a, r = .inr a → 0 < a.1 ∧ a.1 < 5) {K : Int32 → mm_T → Option mm_T} {k : Nat × Nat → β ⊕ zT_R} {G : β ⊕ zT_R → mm_T → Prop} (hok : ∀ a M', r = .inl a → kQ_S M0 M' tx Q F m a.2 → ∃ M2, K (nI a.1) M' = some M2 ∧ G (k a) M2) (hbad : ∀ a w M', r = .inr a → kQ_E M0 M' tx a.1 a.2 → ∃ M2, K w M' = some M2 ∧ G (.inr a) M2) : ∃ M2, bd_2 X K = some M2 ∧ G (zT_bind r k) M2 := by
  unfold bd_2
  cases r with
  | inl a =>
    obtain ⟨M', e1, f1, t1⟩ := hX
    obtain ⟨M2, e2, g2⟩ := hok a M' rfl (kQ_ofFC h f1 t1)
    rw [e1, Option.bind_some]
    exact ⟨M2, e2, g2⟩
  | inr a =>
    obtain ⟨w, M', e1, x1⟩ := hX
    have h5 := her a rfl
    obtain ⟨M2, e2, g2⟩ := hbad a w M' rfl (kQ_ofX hp0 h x1 h5.1 h5.2)
    rw [e1, Option.bind_some]
    exact ⟨M2, e2, g2⟩
theorem kQ_takeE {c p : Nat} {X : Option (Int32 × mm_T)} (h : kQ_E M0 M tx c p) (hX : ∃ w M', X = some (w, M') ∧ kP_X M M' tx c (nI p)) {K : Int32 → mm_T → Option mm_T} {G : mm_T → Prop} (hbad : ∀ w M', kQ_E M0 M' tx c p → ∃ M2, K w M' = some M2 ∧ G M2) : ∃ M2, bd_2 X K = some M2 ∧ G M2 := by
  obtain ⟨w, M', e1, x1⟩ := hX
  obtain ⟨M2, e2, g2⟩ := hbad w M' (kQ_EX h x1)
  unfold bd_2
  rw [e1, Option.bind_some]
  exact ⟨M2, e2, g2⟩
theorem kQ_kindC (hp : ky_p M) (hx : ky_x M tx) (hT : kT_C M tx e) : ff_S_instructionKind 41 M = some (zo_N (zT_kh tx e)) := by
  unfold ff_S_instructionKind zT_kh
  rw [zq_gd (kP_e9 hp)]
  simp only [kT_isWC hp hx hT (show 2 < 31 by omega), kT_isWC hp hx hT (show 3 < 31 by omega), kT_isWC hp hx hT (show 4 < 31 by omega), kT_isWC hp hx hT (show 5 < 31 by omega), Option.bind_some, zb_0, decide_eq_false_iff_not]
  by_cases c2 : zT_W tx e 2
  · rw [if_neg (fun z => z c2), if_pos c2]; rfl
  · rw [if_pos c2, if_neg c2]
    by_cases c3 : zT_W tx e 3
    · rw [if_neg (fun z => z c3), if_pos c3]; rfl
    · rw [if_pos c3, if_neg c3]
      by_cases c4 : zT_W tx e 4
      · rw [if_neg (fun z => z c4), if_pos c4]; rfl
      · rw [if_pos c4, if_neg c4]
        by_cases c5 : zT_W tx e 5
        · rw [if_neg (fun z => z c5), if_pos c5]; rfl
        · rw [if_pos c5, if_neg c5]; rfl
theorem kQ_head (hp0 : ky_p M0) (hP0 : zo_P M0 45) (h : kQ_S M0 M tx Q F m e) : ∃ M', ((ff_S_parseHead 41 45 M).bind fun M10 => ff_S_takeSemicolon 41 M10) = some M' ∧ kQ_1 M0 tx F m (zT_head tx Q e) M' := by
  have hp := kQ_p hp0 h
  have hP := hP0.keep h.1
  have hV := h.2.2.2.2.2.2.2
  have h12 := hV.1
  have e9 := kP_e9 hp
  have hH := h.2.2.2.2.2.1
  unfold ff_S_parseHead zT_head
  rw [zq_gd e9, kT_isWC hp h.2.1 h.2.2.1 (show 1 < 31 by omega), Option.bind_some]
  simp only [zb_0, decide_eq_false_iff_not]
  by_cases c1 : zT_W tx e 1
  · rw [if_neg (fun z => z c1), if_pos c1, zg_I (zo_e hP), Option.bind_some, hH.1]
    by_cases c2 : zp_nb Q < 12
    · rw [if_pos (show nI (zp_nb Q) < (12 : Int32) from nI_lt (b := 12) c2 (by omega)), if_pos c2]
      obtain ⟨M1, e1, f1, h1⟩ := zQ_addC hP hH hV c2
      have S1 : kQ_S M0 M1 tx (zQ_add Q) F m e := kQ_Sk h f1 (fun a z => by unfold zo_A at z; omega) h1 (fun b hb => by rw [zf_i f1 (by unfold zo_A; omega), zf_i f1 (by unfold zo_A; omega)]; exact h.2.2.2.2.2.2.1 b hb) (zQ_add_V hV c2)
      obtain ⟨M2, e2, f2, t2⟩ := kT_readC' (kQ_p hp0 S1) S1.2.1 S1.2.2.1
      have S2 := kQ_ofFC S1 f2 t2
      obtain ⟨M3, e3, r3⟩ := kQ_sem hp0 S2
      rw [e1, Option.bind_some, e2, Option.bind_some, Option.bind_some, e3]
      refine ⟨M3, rfl, ?_⟩
      cases es : zT_sem tx (zT_e tx e) with
      | inl a => rw [es] at r3; exact r3
      | inr a => rw [es] at r3; exact r3
    · obtain ⟨M1, e1, x1⟩ := kP_fail hp h.2.1 h.2.2.1 h.2.2.2.1 3 (zT_s' tx e)
      have e1' : ff_S_fail 41 3 (nI (zT_s' tx e)) M = some M1 := e1
      obtain ⟨M2, e2, g2⟩ := kQ_semE (kQ_ofX hp0 h x1 (by omega) (by omega))
      rw [if_neg (show ¬ nI (zp_nb Q) < (12 : Int32) from nI_nlt (b := 12) (by omega) (by omega)), if_neg c2, zg_I e9, Option.bind_some, h.2.2.1.2.2.1, e1', Option.bind_some, Option.bind_some, e2]
      exact ⟨M2, rfl, g2⟩
  · obtain ⟨M1, e1, x1⟩ := kP_fail hp h.2.1 h.2.2.1 h.2.2.2.1 1 (zT_s' tx e)
    have e1' : ff_S_fail 41 1 (nI (zT_s' tx e)) M = some M1 := e1
    obtain ⟨M2, e2, g2⟩ := kQ_semE (kQ_ofX hp0 h x1 (by omega) (by omega))
    rw [if_pos c1, if_neg c1, zg_I e9, Option.bind_some, h.2.2.1.2.2.1, e1', Option.bind_some, Option.bind_some, e2]
    exact ⟨M2, rfl, g2⟩
def kQ_2 (M0 : mm_T) (tx : (Nat → Nat) × Nat) (Q : zp_T) (F : Nat → Nat × Nat) (m : Nat) (r : ((Nat × Nat × Nat × Nat × Nat) × Nat) ⊕ zT_R) (M' : mm_T) : Prop := match r with
  | .inl a => kQ_S M0 M' tx (zQ_app Q a.1) F m a.2
  | .inr a => kQ_E M0 M' tx a.1 a.2
theorem kQ_lay (hp0 : ky_p M0) (hP0 : zo_P M0 45) (h : kQ_S M0 M tx Q F m e) (h40 : zp_ni Q < 40) (hnb : 1 ≤ zp_nb Q) {q : Nat × Nat × Nat × Nat × Nat} (hq : zp_iok q) {w : Int32} (hw : w = nI (zp_W q)) : ∃ M', ((gf_I M 41 6 2).bind fun x8 => if x8 = 0 then ((some w).bind fun x9 => (ff_P_append 45 x9 M).bind fun M7 => some M7) else some M) = some M' ∧ kQ_S M0 M' tx (zQ_app Q q) F m e := by
  have hp := kQ_p hp0 h
  have hP := hP0.keep h.1
  obtain ⟨M1, e1, f1, h1⟩ := zQ_appC hP h.2.2.2.2.2.1 h.2.2.2.2.2.2.2 h40 q
  rw [zg_I (kP_e9 hp), Option.bind_some, h.2.2.2.1, if_pos rfl, Option.bind_some, hw, e1, Option.bind_some]
  exact ⟨M1, rfl, kQ_Sk h f1 (fun a z => by unfold zo_A at z; omega) h1 (fun b hb => by rw [zf_i f1 (by unfold zo_A; omega), zf_i f1 (by unfold zo_A; omega)]; exact h.2.2.2.2.2.2.1 b hb) (zQ_app_V h.2.2.2.2.2.2.2 hq h40 hnb)⟩
theorem kQ_layE {c p : Nat} (h : kQ_E M0 M tx c p) (X : Option Int32) (K : Int32 → Option mm_T) : ∃ M', ((gf_I M 41 6 2).bind fun x8 => if x8 = 0 then (X.bind K) else some M) = some M' ∧ kQ_E M0 M' tx c p := by
  rw [zg_I (kP_e9 h.2.1), Option.bind_some, if_neg h.2.ne]
  exact ⟨M, rfl, h⟩
theorem kQ_instr (hp0 : ky_p M0) (hP0 : zo_P M0 45) (h : kQ_S M0 M tx Q F m e) (hnb : 1 ≤ zp_nb Q) {kd : Nat} (hkd : zT_kh tx e = some kd) : ∃ M', ((ff_S_parseInstruction 41 45 M).bind fun M9 => ff_S_takeSemicolon 41 M9) = some M' ∧ kQ_1 M0 tx F m (zT_item tx Q e kd) M' := by
  have hp := kQ_p hp0 h
  have hP := hP0.keep h.1
  have hV := h.2.2.2.2.2.2.2
  have hni := hV.2.1
  have e9 := kP_e9 hp
  have hH := h.2.2.2.2.2.1
  have hk3 : kd ≤ 3 := by
    unfold zT_kh at hkd
    split at hkd
    · cases hkd; omega
    · split at hkd
      · cases hkd; omega
      · split at hkd
        · cases hkd; omega
        · split at hkd
          · cases hkd; omega
          · cases hkd
  -- without the semicolon
  suffices inner : zp_ni Q < 40 → ∃ M', ff_S_parseInstruction 41 45 M = some M' ∧ kQ_2 M0 tx Q F m (zT_ins tx kd (zT_e tx e)) M' by
    unfold zT_item
    by_cases c40 : zp_ni Q < 40
    · obtain ⟨M1, e1, g1⟩ := inner c40
      rw [if_pos c40, e1, Option.bind_some]
      cases er : zT_ins tx kd (zT_e tx e) with
      | inl a =>
        rw [er] at g1
        obtain ⟨M2, e2, g2⟩ := kQ_sem hp0 (Q := zQ_app Q a.1) g1
        exact ⟨M2, e2, g2⟩
      | inr a =>
        rw [er] at g1
        obtain ⟨M2, e2, g2⟩ := kQ_semE (c := a.1) (p := a.2) g1
        exact ⟨M2, e2, g2⟩
    · obtain ⟨M1, e1, x1⟩ := kP_fail hp h.2.1 h.2.2.1 h.2.2.2.1 3 (zT_s' tx e)
      have e1' : ff_S_fail 41 3 (nI (zT_s' tx e)) M = some M1 := e1
      obtain ⟨M2, e2, g2⟩ := kQ_semE (kQ_ofX hp0 h x1 (by omega) (by omega))
      have ef : ff_P_isFull 45 M = some 1 := by
        unfold ff_P_isFull
        rw [zq_gd (zo_e hP), zg_I (zo_e hP), Option.bind_some, hH.2.1, if_neg (show ¬ nI (zp_ni Q) < (40 : Int32) from nI_nlt (b := 40) (by omega) (by omega))]
      unfold ff_S_parseInstruction
      rw [if_neg c40, zq_gd e9, ef, Option.bind_some, if_neg (by decide), zg_I e9, Option.bind_some, h.2.2.1.2.2.1, e1', Option.bind_some, Option.bind_some, e2]
      exact ⟨M2, rfl, g2⟩
  intro c40
  have ef : ff_P_isFull 45 M = some 0 := by
    unfold ff_P_isFull
    rw [zq_gd (zo_e hP), zg_I (zo_e hP), Option.bind_some, hH.2.1, if_pos (show nI (zp_ni Q) < (40 : Int32) from nI_lt (b := 40) c40 (by omega))]
  obtain ⟨M1, e1, f1, t1⟩ := kT_readC' hp h.2.1 h.2.2.1
  have S1 := kQ_ofFC h f1 t1
  unfold ff_S_parseInstruction
  rw [zq_gd e9, ef, Option.bind_some, if_pos rfl, kQ_kindC hp h.2.1 h.2.2.1, hkd, Option.bind_some, e1, Option.bind_some]
  simp only [zq_jp, zo_some]
  unfold zT_ins
  rcases (show kd = 0 ∨ kd = 1 ∨ kd = 2 ∨ kd = 3 by omega) with z | z | z | z
  · subst z
    simp only [show ¬ nI 0 = (3 : Int32) by decide, show nI 0 = (0 : Int32) from rfl, show ¬ (0 : Int32) = 2 by decide, if_true, if_false]
    rw [if_neg (by decide)]
    refine kQ_take hp0 S1 (kP_var (kQ_p hp0 S1) S1.2.1 S1.2.2.1 S1.2.2.2.1) (fun a => zT_var_er) (G := kQ_2 M0 tx Q F m) (fun a Ma ha Sa => ?_) (fun a w Ma ha Ea => ?_)
    · refine kQ_take hp0 Sa (kP_num (m := 999) (kQ_p hp0 Sa) Sa.2.1 Sa.2.2.1 Sa.2.2.2.1 (by omega)) (fun a => zT_num_er) (G := kQ_2 M0 tx Q F m) (fun b Mb hb Sb => ?_) (fun b w Mb hb Eb => ?_)
      · have oa := zT_var_ok S1.2.2.1.1 ha
        have ob := zT_num_ok Sa.2.2.1.1 hb
        have pk := zc_pack (k := 0) (t := a.1) (l := 0) (o := 0) (r := 0) (c := b.1) (by omega) oa.1 (by omega) (by omega) (by omega) Mb
        have hh := kQ_lay hp0 hP0 Sb c40 hnb (q := (0, a.1, b.1, 0, 0)) (zp_iok_set oa.1 (by omega)) (w := nI (0 + 4 * a.1 + 32 * 0 + 256 * 0 + 2048 * 0 + 8192 * b.1)) (by
          unfold zp_W
          rw [if_pos rfl]
          congr 1
          show 0 + 4 * a.1 + 32 * 0 + 256 * 0 + 2048 * 0 + 8192 * b.1 = 4 * a.1 + 8192 * b.1
          omega)
        rw [← pk] at hh
        exact hh
      · exact kQ_layE Eb _ _
    · exact kQ_takeE Ea (kP_numD Ea.2 999) (fun w Mb Eb => kQ_layE Eb _ _)
  · subst z
    simp only [show ¬ nI 1 = (3 : Int32) by decide, show ¬ nI 1 = (0 : Int32) by decide, show ¬ nI 1 = (2 : Int32) by decide, if_true, if_false]
    rw [if_neg (by omega)]
    refine kQ_take hp0 S1 (kP_var (kQ_p hp0 S1) S1.2.1 S1.2.2.1 S1.2.2.2.1) (fun a => zT_var_er) (G := kQ_2 M0 tx Q F m) (fun a Ma ha Sa => ?_) (fun a w Ma ha Ea => ?_)
    · refine kQ_take hp0 Sa (kP_var (kQ_p hp0 Sa) Sa.2.1 Sa.2.2.1 Sa.2.2.2.1) (fun a => zT_var_er) (G := kQ_2 M0 tx Q F m) (fun b Mb hb Sb => ?_) (fun b w Mb hb Eb => ?_)
      · have oa := zT_var_ok S1.2.2.1.1 ha
        have ob := zT_var_ok Sa.2.2.1.1 hb
        have pk := zc_pack (k := 1) (t := a.1) (l := b.1) (o := 0) (r := 0) (c := 0) (by omega) oa.1 ob.1 (by omega) (by omega) Mb
        have hh := kQ_lay hp0 hP0 Sb c40 hnb (q := (1, a.1, b.1, 0, 0)) (zp_iok_move oa.1 ob.1) (w := nI (1 + 4 * a.1 + 32 * b.1 + 256 * 0 + 2048 * 0 + 8192 * 0)) (by
          unfold zp_W
          rw [if_neg (show ¬ (1 : Nat) = 0 by omega)]
          congr 1)
        rw [← pk] at hh
        exact hh
      · exact kQ_layE Eb _ _
    · exact kQ_takeE Ea (kP_varD Ea.2) (fun w Mb Eb => kQ_layE Eb _ _)
  · subst z
    simp only [show ¬ nI 2 = (3 : Int32) by decide, show ¬ nI 2 = (0 : Int32) by decide, show nI 2 = (2 : Int32) from rfl, show ¬ (2 : Int32) = 3 by decide, show ¬ (2 : Int32) = 0 by decide, if_true, if_false]
    rw [if_neg (by omega), if_neg (by omega)]
    refine kQ_take hp0 S1 (kP_var (kQ_p hp0 S1) S1.2.1 S1.2.2.1 S1.2.2.2.1) (fun a => zT_var_er) (G := kQ_2 M0 tx Q F m) (fun a Ma ha Sa => ?_) (fun a w Ma ha Ea => ?_)
    · refine kQ_take hp0 Sa (kP_var (kQ_p hp0 Sa) Sa.2.1 Sa.2.2.1 Sa.2.2.2.1) (fun a => zT_var_er) (G := kQ_2 M0 tx Q F m) (fun b Mb hb Sb => ?_) (fun b w Mb hb Eb => ?_)
      · refine kQ_take hp0 Sb (kP_opr (kQ_p hp0 Sb) Sb.2.1 Sb.2.2.1 Sb.2.2.2.1) (fun a => zT_opr_er) (G := kQ_2 M0 tx Q F m) (fun c Mc hc Sc => ?_) (fun c w Mc hc Ec => ?_)
        · refine kQ_take hp0 Sc (kP_var (kQ_p hp0 Sc) Sc.2.1 Sc.2.2.1 Sc.2.2.2.1) (fun a => zT_var_er) (G := kQ_2 M0 tx Q F m) (fun d Md hd Sd => ?_) (fun d w Md hd Ed => ?_)
          · have oa := zT_var_ok S1.2.2.1.1 ha
            have ob := zT_var_ok Sa.2.2.1.1 hb
            have oc := zT_opr_ok Sb.2.2.1.1 hc
            have od := zT_var_ok Sc.2.2.1.1 hd
            have pk := zc_pack (k := 2) (t := a.1) (l := b.1) (o := c.1) (r := d.1) (c := 0) (by omega) oa.1 ob.1 (by omega) od.1 Md
            have hh := kQ_lay hp0 hP0 Sd c40 hnb (q := (2, a.1, b.1, c.1, d.1)) (zp_iok_calc oa.1 ob.1 oc.1 od.1) (w := nI (2 + 4 * a.1 + 32 * b.1 + 256 * d.1 + 2048 * c.1 + 8192 * 0)) (by
              unfold zp_W
              rw [if_neg (show ¬ (2 : Nat) = 0 by omega)]
              congr 1)
            rw [← pk] at hh
            exact hh
          · exact kQ_layE Ed _ _
        · exact kQ_takeE Ec (kP_varD Ec.2) (fun w Md Ed => kQ_layE Ed _ _)
      · exact kQ_takeE Eb (kP_oprD Eb.2) (fun w Mc Ec => kQ_takeE Ec (kP_varD Ec.2) (fun w Md Ed => kQ_layE Ed _ _))
    · exact kQ_takeE Ea (kP_varD Ea.2) (fun w Mb Eb => kQ_takeE Eb (kP_oprD Eb.2) (fun w Mc Ec => kQ_takeE Ec (kP_varD Ec.2) (fun w Md Ed => kQ_layE Ed _ _)))
  · subst z
    simp only [show nI 3 = (3 : Int32) from rfl, show ¬ (3 : Int32) = 0 by decide, show ¬ (3 : Int32) = 2 by decide, if_true, if_false]
    rw [if_neg (by omega), if_neg (by omega), if_neg (by omega)]
    refine kQ_take hp0 S1 (kP_var (kQ_p hp0 S1) S1.2.1 S1.2.2.1 S1.2.2.2.1) (fun a => zT_var_er) (G := kQ_2 M0 tx Q F m) (fun a Ma ha Sa => ?_) (fun a w Ma ha Ea => ?_)
    · have oa := zT_var_ok S1.2.2.1.1 ha
      have pk := zc_pack (k := 3) (t := 0) (l := a.1) (o := 0) (r := 0) (c := 0) (by omega) (by omega) oa.1 (by omega) (by omega) Ma
      have hh := kQ_lay hp0 hP0 Sa c40 hnb (q := (3, 0, a.1, 0, 0)) (zp_iok_show oa.1) (w := nI (3 + 4 * 0 + 32 * a.1 + 256 * 0 + 2048 * 0 + 8192 * 0)) (by
        unfold zp_W
        rw [if_neg (show ¬ (3 : Nat) = 0 by omega)]
        congr 1)
      rw [← pk] at hh
      exact hh
    · exact kQ_layE Ea _ _
end ZQSK
section ZXCK
variable {M0 M : mm_T} {tx : (Nat → Nat) × Nat} {Q : zp_T} {F : Nat → Nat × Nat} {m e : Nat}
def kQ_4 (M0 : mm_T) (tx : (Nat → Nat) × Nat) (Q : zp_T) (F : Nat → Nat × Nat) (m : Nat) (r : ((Nat × Nat × Nat × Nat) × (Nat × Nat) × Nat) ⊕ zT_R) (M' : mm_T) : Prop := match r with
  | .inl a => kQ_S M0 M' tx (zp_setx Q (zp_nb Q - 1) a.1) (fun b => if b = zp_nb Q - 1 then a.2.1 else F b) (m + 1) a.2.2
  | .inr a => kQ_E M0 M' tx a.1 a.2
def kQ_3 (M0 : mm_T) (tx : (Nat → Nat) × Nat) (m : Nat) (r : (zp_T × (Nat → Nat × Nat) × Nat) ⊕ zT_R) (M' : mm_T) : Prop := match r with
  | .inl a => kQ_S M0 M' tx a.1 a.2.1 m a.2.2
  | .inr a => kQ_E M0 M' tx a.1 a.2
theorem kQ_put8 (hp : ky_p M) {i : Nat} (hi : i < 12) {β : Type} (K : mm_T → Option β) : ((gf_R M 41 6 8).bind fun x6 => (gf_I M 41 6 5).bind fun x7 => (ff_D_put_a x6 (nI i) x7 M).bind K) = K (mm_sI M 43 i (mm_I M 41 5)) := by
  rw [zg_R (kP_e9 hp), Option.bind_some, zg_I (kP_e9 hp), Option.bind_some, hp.2.1.2.1, zd_put hp.2.2.2.1 hi (by omega), Option.bind_some]
theorem kQ_put9 (hp : ky_p M) {i : Nat} (hi : i < 12) {β : Type} (K : mm_T → Option β) : ((gf_R M 41 6 9).bind fun x6 => (gf_I M 41 6 5).bind fun x7 => (ff_D_put_a x6 (nI i) x7 M).bind K) = K (mm_sI M 44 i (mm_I M 41 5)) := by
  rw [zg_R (kP_e9 hp), Option.bind_some, zg_I (kP_e9 hp), Option.bind_some, hp.2.1.2.2, zd_put hp.2.2.2.2 hi (by omega), Option.bind_some]
theorem kQ_S8 (h : kQ_S M0 M tx Q F m e) {i : Nat} (hi : m ≤ i) (v : Int32) {a : Nat} (ha : a = 43 ∨ a = 44) : kQ_S M0 (mm_sI M a i v) tx Q F m e := by
  have f : zf_F M (mm_sI M a i v) (fun x => x = a) := zf_I (A := fun x => x = a) rfl _ _
  refine kQ_Sk h f (fun x z => by omega) (h.2.2.2.2.2.1.keep (fun x q1 q2 k => zf_i f (by omega) k)) (fun b hb => ?_) h.2.2.2.2.2.2.2
  rw [zm_II, if_neg (by omega), zm_II, if_neg (by omega)]
  exact h.2.2.2.2.2.2.1 b hb
theorem kQ_E8 {c p : Nat} (h : kQ_E M0 M tx c p) (i : Nat) (v : Int32) {a : Nat} (ha : a = 43 ∨ a = 44) : kQ_E M0 (mm_sI M a i v) tx c p :=
  kQ_Ek h (zf_I (A := fun x => x = a) rfl _ _) (fun x z => by omega) (by rw [zm_II, if_neg (by omega)])
theorem kQ_ex1E {c p : Nat} (hP0 : zo_P M0 45) (h : kQ_E M0 M tx c p) {i : Nat} (hi : i < 12) (y : Int32) : ∃ M', ((ff_P_exitByGoto 45 (nI i) y M).bind fun M12 => some M12) = some M' ∧ kQ_E M0 M' tx c p := by
  obtain ⟨M1, e1, f1, k1, _⟩ := zQ_ex1 (hP0.keep h.1.1) hi y
  rw [e1, Option.bind_some]
  exact ⟨M1, rfl, kQ_Ek h f1 (fun a z => by unfold zo_A at z; omega) (k1 45 0 (by omega))⟩
theorem kQ_ex2E {c p : Nat} (hP0 : zo_P M0 45) (h : kQ_E M0 M tx c p) {i : Nat} (hi : i < 12) (v y z : Int32) : ∃ M', ((ff_P_exitByBranch 45 (nI i) v y z M).bind fun M8 => some M8) = some M' ∧ kQ_E M0 M' tx c p := by
  obtain ⟨M1, e1, f1, k1, _⟩ := zQ_ex2 (hP0.keep h.1.1) hi v y z
  rw [e1, Option.bind_some]
  exact ⟨M1, rfl, kQ_Ek h f1 (fun a z => by unfold zo_A at z; omega) (k1 45 0 (by omega))⟩
theorem kQ_done (h : kQ_S M0 M tx Q F m e) (hm : m + 1 = zp_nb Q) {q : Nat × Nat × Nat × Nat} (hq : q.1 ≤ 2 ∧ (1 ≤ q.1 → q.2.2.1 ≤ 11) ∧ (q.1 = 2 → q.2.1 < 8 ∧ q.2.2.2 ≤ 11)) {u : Nat × Nat} (g1 : 1 ≤ q.1 → mm_I M 43 m = nI u.1) (g2 : q.1 = 2 → mm_I M 44 m = nI u.2) {M' : mm_T} (f : zf_F M M' (zo_A 45)) (hk : ∀ a k, (a < 48 ∨ 51 < a) ∨ k ≠ m → mm_I M' a k = mm_I M a k) (h3 : mm_I M' 48 m = nI q.1) (h4 : q.1 = 2 → mm_I M' 49 m = nI q.2.1) (h5 : 1 ≤ q.1 → mm_I M' 50 m = nI q.2.2.1) (h6 : q.1 = 2 → mm_I M' 51 m = nI q.2.2.2) : kQ_S M0 M' tx (zp_setx Q (zp_nb Q - 1) q) (fun b => if b = zp_nb Q - 1 then u else F b) (m + 1) e := by
  have em : zp_nb Q - 1 = m := by omega
  have H := zQ_close (M' := M') h.2.2.2.2.2.1 hm (q := q) (fun a k z => hk a k (by omega)) (by rw [em]; exact h3) (by rw [em]; exact h4) (by rw [em]; exact h5) (by rw [em]; exact h6)
  refine kQ_Sk h f (fun a z => by unfold zo_A at z; omega) H (fun b hb => ?_) (zQ_setx_V h.2.2.2.2.2.2.2 hm hq)
  rw [hk 43 b (by omega), hk 44 b (by omega)]
  have ew : zp_w (zp_setx Q (zp_nb Q - 1) q) b = (if b = zp_nb Q - 1 then q else Q.2.2.2.1 b).1 := rfl
  rw [ew]
  by_cases c : b = zp_nb Q - 1
  · rw [if_pos c, c, em]
    simp only [if_true]
    exact ⟨g1, g2⟩
  · rw [if_neg c]
    simp only [if_neg c]
    exact h.2.2.2.2.2.2.1 b (by omega)
theorem kQ_takeK {β : Type} {X : Option (Int32 × mm_T)} {r : (Nat × Nat) ⊕ zT_R} (hp0 : ky_p M0) (h : kQ_S M0 M tx Q F m e) (hX : kP_V X M tx r) (her : ∀ a, r = .inr a → 0 < a.1 ∧ a.1 < 5) {K : Int32 → mm_T → Option mm_T} {k : Nat × Nat → β ⊕ zT_R} {G : β ⊕ zT_R → mm_T → Prop} (hok : ∀ a M', r = .inl a → kQ_S M0 M' tx Q F m a.2 → (∀ x k, x ≠ 41 → mm_I M' x k = mm_I M x k) → ∃ M2, K (nI a.1) M' = some M2 ∧ G (k a) M2) (hbad : ∀ a w M', r = .inr a → kQ_E M0 M' tx a.1 a.2 → ∃ M2, K w M' = some M2 ∧ G (.inr a) M2) : ∃ M2, bd_2 X K = some M2 ∧ G (zT_bind r k) M2 := by
  unfold bd_2
  cases r with
  | inl a =>
    obtain ⟨M', e1, f1, t1⟩ := hX
    obtain ⟨M2, e2, g2⟩ := hok a M' rfl (kQ_ofFC h f1 t1) (fun x k z => zf_i f1.1 z k)
    rw [e1, Option.bind_some]
    exact ⟨M2, e2, g2⟩
  | inr a =>
    obtain ⟨w, M', e1, x1⟩ := hX
    have h5 := her a rfl
    obtain ⟨M2, e2, g2⟩ := hbad a w M' rfl (kQ_ofX hp0 h x1 h5.1 h5.2)
    rw [e1, Option.bind_some]
    exact ⟨M2, e2, g2⟩
theorem kQ_exitC (hp0 : ky_p M0) (hP0 : zo_P M0 45) (h : kQ_S M0 M tx Q F m e) (hm : m + 1 = zp_nb Q) : ∃ M', ff_S_parseExit 41 45 (nI m) M = some M' ∧ kQ_4 M0 tx Q F m (zT_ex tx e) M' := by
  have hp := kQ_p hp0 h
  have hV := h.2.2.2.2.2.2.2
  have h12 := hV.1
  have m12 : m < 12 := by omega
  have e9 := kP_e9 hp
  unfold ff_S_parseExit zT_ex
  rw [zq_gd e9]
  simp only [kT_isWC hp h.2.1 h.2.2.1 (show 9 < 31 by omega), kT_isWC hp h.2.1 h.2.2.1 (show 10 < 31 by omega), kT_isWC hp h.2.1 h.2.2.1 (show 11 < 31 by omega), Option.bind_some, zb_0, decide_eq_false_iff_not]
  obtain ⟨M1, e1, f1, t1⟩ := kT_readC' hp h.2.1 h.2.2.1
  have S1 := kQ_ofFC h f1 t1
  have P1 := kQ_p hp0 S1
  rw [e1]
  by_cases c9 : zT_W tx e 9
  · rw [if_neg (fun z => z c9), if_pos c9, Option.bind_some]
    obtain ⟨M2, e2, f2, k2, v2⟩ := zQ_ex0 (hP0.keep S1.1) m12
    rw [e2, Option.bind_some]
    exact ⟨M2, rfl, kQ_done S1 hm (q := (0, 0, 0, 0)) (u := (0, 0)) (by refine ⟨?_, ?_, ?_⟩ <;> intros <;> simp_all) (fun z => by simp at z) (fun z => by simp at z) f2 (fun a k z => k2 a k (by omega)) v2 (fun z => by simp at z) (fun z => by simp at z) (fun z => by simp at z)⟩
  · rw [if_pos c9, if_neg c9]
    by_cases c10 : zT_W tx e 10
    · rw [if_neg (fun z => z c10), if_pos c10, Option.bind_some, kQ_put8 P1 m12]
      have S2 := kQ_S8 S1 (Nat.le_refl m) (mm_I M1 41 5) (Or.inl rfl)
      refine kQ_takeK hp0 S2 (kP_num (m := 11) (kQ_p hp0 S2) S2.2.1 S2.2.2.1 S2.2.2.2.1 (by omega)) (fun a => zT_num_er) (G := kQ_4 M0 tx Q F m) (fun a Ma ha Sa ka => ?_) (fun a w Ma ha Ea => kQ_ex1E hP0 Ea m12 _)
      have oa := zT_num_ok S2.2.2.1.1 ha
      obtain ⟨M3, e3, f3, k3, v3, w3⟩ := zQ_ex1 (hP0.keep Sa.1) m12 (nI a.1)
      rw [e3, Option.bind_some]
      refine ⟨M3, rfl, kQ_done Sa hm (q := (1, 0, a.1, 0)) (u := (zT_s' tx (zT_e tx e), 0)) ⟨by show 1 ≤ 2; omega, fun _ => oa.1, fun z => absurd z (by show ¬ (1 : Nat) = 2; omega)⟩ (fun _ => ?_) (fun z => absurd z (by show ¬ (1 : Nat) = 2; omega)) f3 (fun a k z => k3 a k (by omega)) v3 (fun z => absurd z (by show ¬ (1 : Nat) = 2; omega)) (fun _ => w3) (fun z => absurd z (by show ¬ (1 : Nat) = 2; omega))⟩
      rw [ka 43 m (by omega), zm_II, if_pos ⟨rfl, rfl⟩, S1.2.2.1.2.2.1]
    · rw [if_pos c10, if_neg c10]
      by_cases c11 : zT_W tx e 11
      · rw [if_neg (fun z => z c11), if_pos c11, Option.bind_some]
        refine kQ_takeK hp0 S1 (kP_var P1 S1.2.1 S1.2.2.1 S1.2.2.2.1) (fun a => zT_var_er) (G := kQ_4 M0 tx Q F m) (fun a Ma ha Sa ka => ?_) (fun a w Ma ha Ea => ?_)
        · have oa := zT_var_ok S1.2.2.1.1 ha
          rw [kQ_put8 (kQ_p hp0 Sa) m12]
          have S2 := kQ_S8 Sa (Nat.le_refl m) (mm_I Ma 41 5) (Or.inl rfl)
          refine kQ_takeK hp0 S2 (kP_num (m := 11) (kQ_p hp0 S2) S2.2.1 S2.2.2.1 S2.2.2.2.1 (by omega)) (fun a => zT_num_er) (G := kQ_4 M0 tx Q F m) (fun b Mb hb Sb kb => ?_) (fun b w Mb hb Eb => ?_)
          · have ob := zT_num_ok S2.2.2.1.1 hb
            rw [kQ_put9 (kQ_p hp0 Sb) m12]
            have S3 := kQ_S8 Sb (Nat.le_refl m) (mm_I Mb 41 5) (Or.inr rfl)
            refine kQ_takeK hp0 S3 (kP_num (m := 11) (kQ_p hp0 S3) S3.2.1 S3.2.2.1 S3.2.2.2.1 (by omega)) (fun a => zT_num_er) (G := kQ_4 M0 tx Q F m) (fun c Mc hc Sc kc => ?_) (fun c w Mc hc Ec => kQ_ex2E hP0 Ec m12 _ _ _)
            have oc := zT_num_ok S3.2.2.1.1 hc
            obtain ⟨M3, e3, f3, k3, v3, w3, y3, z3⟩ := zQ_ex2 (hP0.keep Sc.1) m12 (nI a.1) (nI b.1) (nI c.1)
            rw [e3, Option.bind_some]
            refine ⟨M3, rfl, kQ_done Sc hm (q := (2, a.1, b.1, c.1)) (u := (zT_s' tx a.2, zT_s' tx b.2)) ⟨Nat.le_refl 2, fun _ => ob.1, fun _ => ⟨oa.1, oc.1⟩⟩ (fun _ => ?_) (fun _ => ?_) f3 (fun a k z => k3 a k (by omega)) v3 (fun _ => w3) (fun _ => y3) (fun _ => z3)⟩
            · rw [kc 43 m (by omega), zm_II, if_neg (by omega), kb 43 m (by omega), zm_II, if_pos ⟨rfl, rfl⟩, Sa.2.2.1.2.2.1]
            · rw [kc 44 m (by omega), zm_II, if_pos ⟨rfl, rfl⟩, Sb.2.2.1.2.2.1]
          · rw [kQ_put9 Eb.2.1 m12]
            exact kQ_takeE (kQ_E8 Eb m _ (Or.inr rfl)) (kP_numD (kQ_E8 Eb m _ (Or.inr rfl)).2 11) (fun w Mc Ec => kQ_ex2E hP0 Ec m12 _ _ _)
        · rw [kQ_put8 Ea.2.1 m12]
          refine kQ_takeE (kQ_E8 Ea m _ (Or.inl rfl)) (kP_numD (kQ_E8 Ea m _ (Or.inl rfl)).2 11) (fun w Mb Eb => ?_)
          rw [kQ_put9 Eb.2.1 m12]
          exact kQ_takeE (kQ_E8 Eb m _ (Or.inr rfl)) (kP_numD (kQ_E8 Eb m _ (Or.inr rfl)).2 11) (fun w Mc Ec => kQ_ex2E hP0 Ec m12 _ _ _)
      · obtain ⟨M1, e1, x1⟩ := kP_fail hp h.2.1 h.2.2.1 h.2.2.2.1 1 (zT_s' tx e)
        have e1' : ff_S_fail 41 1 (nI (zT_s' tx e)) M = some M1 := e1
        rw [if_pos c11, if_neg c11, zg_I e9, Option.bind_some, h.2.2.1.2.2.1, e1', Option.bind_some]
        exact ⟨M1, rfl, kQ_ofX hp0 h x1 (by omega) (by omega)⟩
theorem kQ_exit (hp0 : ky_p M0) (hP0 : zo_P M0 45) (h : kQ_S M0 M tx Q F m e) (hm : m + 1 = zp_nb Q) : ∃ M', ((ff_S_parseExit 41 45 (nI m) M).bind fun M8 => ff_S_takeSemicolon 41 M8) = some M' ∧ kQ_3 M0 tx (m + 1) (zT_exit tx Q F e) M' := by
  obtain ⟨M1, e1, g1⟩ := kQ_exitC hp0 hP0 h hm
  unfold zT_exit
  rw [e1, Option.bind_some]
  cases er : zT_ex tx e with
  | inl a =>
    rw [er] at g1
    have g1' : kQ_S M0 M1 tx (zp_setx Q (zp_nb Q - 1) a.1) (fun b => if b = zp_nb Q - 1 then a.2.1 else F b) (m + 1) a.2.2 := g1
    obtain ⟨M2, e2, g2⟩ := kQ_sem hp0 g1'
    refine ⟨M2, e2, ?_⟩
    show kQ_3 M0 tx (m + 1) (zT_bind (zT_sem tx a.2.2) _) M2
    cases es : zT_sem tx a.2.2 with
    | inl x => rw [es] at g2; exact g2
    | inr x => rw [es] at g2; exact g2
  | inr a =>
    rw [er] at g1
    have g1' : kQ_E M0 M1 tx a.1 a.2 := g1
    obtain ⟨M2, e2, g2⟩ := kQ_semE g1'
    exact ⟨M2, e2, g2⟩
end ZXCK
section ZLCK
variable {M0 M : mm_T} {tx : (Nat → Nat) × Nat} {Q : zp_T} {F : Nat → Nat × Nat} {m e : Nat}
def kQ_5 (M0 : mm_T) (tx : (Nat → Nat) × Nat) (r : (zp_T × (Nat → Nat × Nat)) ⊕ zT_R) (M' : mm_T) : Prop := match r with
  | .inl a => ∃ e, 1 ≤ zp_nb a.1 ∧ kQ_S M0 M' tx a.1 a.2 (zp_nb a.1) e
  | .inr a => kQ_E M0 M' tx a.1 a.2
theorem kQ_goE {c p : Nat} (h : kQ_E M0 M tx c p) (k0 : mm_T → Option (Int32 × mm_T)) (fu : Nat) (a b : Int32) : lf_S_parse_27 k0 41 45 (fu + 1) a b M = k0 M := by
  show lb_S_parse_27 k0 41 45 (lf_S_parse_27 k0 41 45 fu) a b M = _
  unfold lb_S_parse_27
  by_cases c : (700 : Int32) < b
  · rw [if_pos c]
  · rw [if_neg c, zg_I (kP_e9 h.2.1), Option.bind_some, if_neg h.2.ne]
theorem kQ_goC (hp0 : ky_p M0) (hP0 : zo_P M0 45) (k0 : mm_T → Option (Int32 × mm_T)) : ∀ (f fu i : Nat) (inB : Bool) (Q : zp_T) (F : Nat → Nat × Nat) (m e : Nat) (M : mm_T), kQ_S M0 M tx Q F m e → (if inB then m + 1 else m) = zp_nb Q → (i = 0 ↔ zp_nb Q = 0) → i ≤ e → tx.2 - e + 1 ≤ f → tx.2 ≤ 700 → ∃ M', lf_S_parse_27 k0 41 45 (fu + f + 1) (if inB then 1 else 0) (nI i) M = k0 M' ∧ kQ_5 M0 tx (zT_go tx f inB Q F e) M' := by
  intro f
  induction f with
  | zero => intro fu i inB Q F m e M h hm hi hie hf h7; omega
  | succ f ih =>
    intro fu i inB Q F m e M h hm hi hie hf h7
    have hp := kQ_p hp0 h
    have e9 := kP_e9 hp
    have he := h.2.2.1.1
    have eA : ∀ {β : Type} (X : Option mm_T) (K : mm_T → Option β), (X.bind fun M10 => (ff_S_takeSemicolon 41 M10).bind K) = (X.bind fun M10 => ff_S_takeSemicolon 41 M10).bind K := fun X K => by cases X <;> rfl
    -- one turn
    have turn : ∀ {β : Type} {X : Option mm_T} {r : β ⊕ zT_R} {v : Int32} {g : β → (zp_T × (Nat → Nat × Nat)) ⊕ zT_R}, (∃ M', X = some M' ∧ (∀ a, r = .inl a → ∃ M2, lf_S_parse_27 k0 41 45 (fu + f + 1) v (nI (i + 1)) M' = k0 M2 ∧ kQ_5 M0 tx (g a) M2) ∧ ∀ a, r = .inr a → kQ_E M0 M' tx a.1 a.2) → ∃ M2, (X.bind fun M7 => (some (nI i + (1 : Int32))).bind fun x3 => lf_S_parse_27 k0 41 45 (fu + f + 1) v x3 M7) = k0 M2 ∧ kQ_5 M0 tx (zT_bind r g) M2 := by
      rintro β X r v g ⟨M', e1, g1, g2⟩
      rw [e1, Option.bind_some, Option.bind_some, nI_1]
      cases r with
      | inl a => exact g1 a rfl
      | inr a => exact ⟨M', kQ_goE (g2 a rfl) k0 _ _ _, g2 a rfl⟩
    show ∃ M', lb_S_parse_27 k0 41 45 (lf_S_parse_27 k0 41 45 (fu + f + 1)) (if inB then 1 else 0) (nI i) M = k0 M' ∧ _
    unfold lb_S_parse_27
    rw [if_neg (show ¬ (700 : Int32) < nI i from nI_nlt (a := 700) (by omega) (by omega)), zg_I e9, Option.bind_some, h.2.2.2.1, if_pos rfl, zq_jp]
    simp only [zq_jp, eA]
    cases inB with
    | false =>
      have hm' : m = zp_nb Q := hm
      simp only [Bool.false_eq_true, if_false, if_true]
      have core : ¬ (zp_nb Q ≠ 0 ∧ zT_k tx e = 0) → ∃ M2, (((ff_S_parseHead 41 45 M).bind fun M10 => ff_S_takeSemicolon 41 M10).bind fun M7 => (some (nI i + (1 : Int32))).bind fun x3 => lf_S_parse_27 k0 41 45 (fu + f + 1) 1 x3 M7) = k0 M2 ∧ kQ_5 M0 tx (zT_go tx (f + 1) false Q F e) M2 := by
        intro hn
        have eg : zT_go tx (f + 1) false Q F e = zT_bind (zT_head tx Q e) fun a => zT_go tx f true a.1 F a.2 := by
          show (if zp_nb Q ≠ 0 ∧ zT_k tx e = 0 then _ else _) = _
          rw [if_neg hn]
        rw [eg]
        obtain ⟨M1, e1, g1⟩ := kQ_head hp0 hP0 h
        refine turn ⟨M1, e1, fun a ha => ?_, fun a ha => ?_⟩
        · rw [ha] at g1
          have o := zT_head_ok he ha
          exact ih fu (i + 1) true a.1 F m a.2 M1 g1 (by show m + 1 = zp_nb a.1; omega) (by omega) (by omega) (by omega) h7
        · rw [ha] at g1; exact g1
      by_cases ci : i = 0
      · rw [if_pos (by rw [ci]; rfl)]
        exact core (fun z => z.1 (hi.mp ci))
      · rw [if_neg (show ¬ nI i = 0 from nI_ne0 (by omega) (by omega)), zg_I e9, Option.bind_some, h.2.2.1.2.1]
        by_cases ck : zT_k tx e = 0
        · have eg : zT_go tx (f + 1) false Q F e = .inl (Q, F) := by
            show (if zp_nb Q ≠ 0 ∧ zT_k tx e = 0 then _ else _) = _
            rw [if_pos ⟨fun z => ci (hi.mpr z), ck⟩]
          rw [if_pos (by rw [ck]; rfl), eg]
          exact ⟨M, rfl, e, by show 1 ≤ zp_nb Q; have := mt hi.mpr ci; omega, hm' ▸ h⟩
        · rw [if_neg (show ¬ nI (zT_k tx e) = 0 from nI_ne0 (by omega) (by have := zT_k_le tx e; omega))]
          exact core (fun z => ck z.2)
    | true =>
      have hm' : m + 1 = zp_nb Q := hm
      have hH := h.2.2.2.2.2.1
      simp only [if_true, if_false, show ¬ (1 : Int32) = 0 by decide, ite_self]
      rw [kQ_kindC hp h.2.1 h.2.2.1, Option.bind_some]
      cases ek : zT_kh tx e with
      | some kd =>
        have eg : zT_go tx (f + 1) true Q F e = zT_bind (zT_item tx Q e kd) fun a => zT_go tx f true a.1 F a.2 := by
          show (match zT_kh tx e with | some kd => _ | none => _) = _
          rw [ek]
        have hkd : kd ≤ 3 := by
          unfold zT_kh at ek
          split at ek
          · cases ek; omega
          · split at ek
            · cases ek; omega
            · split at ek
              · cases ek; omega
              · split at ek
                · cases ek; omega
                · cases ek
        rw [eg, zo_some, if_neg (show ¬ nI kd = -1 from by rcases (show kd = 0 ∨ kd = 1 ∨ kd = 2 ∨ kd = 3 by omega) with z | z | z | z <;> subst z <;> decide)]
        obtain ⟨M1, e1, g1⟩ := kQ_instr hp0 hP0 h (by omega) ek
        refine turn ⟨M1, e1, fun a ha => ?_, fun a ha => ?_⟩
        · rw [ha] at g1
          have o := zT_item_ok he ha
          exact ih fu (i + 1) true a.1 F m a.2 M1 g1 (by show m + 1 = zp_nb a.1; omega) (by omega) (by omega) (by omega) h7
        · rw [ha] at g1; exact g1
      | none =>
        have eg : zT_go tx (f + 1) true Q F e = zT_bind (zT_exit tx Q F e) fun a => zT_go tx f false a.1 a.2.1 a.2.2 := by
          show (match zT_kh tx e with | some kd => _ | none => _) = _
          rw [ek]
        rw [eg, if_pos (show zo_N none = -1 from rfl), zg_I (zo_e (hP0.keep h.1)), Option.bind_some, hH.1, show (1 : Int32) = nI 1 from rfl, zi_sub (b := 1) (by omega), show zp_nb Q - 1 = m by omega]
        obtain ⟨M1, e1, g1⟩ := kQ_exit hp0 hP0 h hm'
        refine turn ⟨M1, e1, fun a ha => ?_, fun a ha => ?_⟩
        · rw [ha] at g1
          have o := zT_exit_ok he ha
          exact ih fu (i + 1) false a.1 a.2.1 (m + 1) a.2.2 M1 g1 (by show m + 1 = zp_nb a.1; omega) (by omega) (by omega) (by omega) h7
        · rw [ha] at g1; exact g1
theorem kQ_rd (hP : zo_P M 45) (hp : ky_p M) {b : Nat} (b12 : b < 12) : ff_P_wayCount 45 (nI b) M = some (mm_I M 48 b) ∧ ff_P_wayOf 45 (nI b) 0 M = some (mm_I M 50 b) ∧ ff_P_wayOf 45 (nI b) 1 M = some (mm_I M 51 b) ∧ ff_D_at_a 43 (nI b) M = some (mm_I M 43 b) ∧ ff_D_at_a 44 (nI b) M = some (mm_I M 44 b) := by
  have e2 := zo_e hP
  refine ⟨?_, ?_, ?_, zd_at hp.2.2.2.1 b12 (by omega), zd_at hp.2.2.2.2 b12 (by omega)⟩
  · unfold ff_P_wayCount
    rw [zq_gd e2, zg_R e2, Option.bind_some, hP.2.1.2.2.1, zd_at hP.2.2.2.2.1 b12 (by omega), Option.bind_some]
  · unfold ff_P_wayOf
    rw [zq_gd e2, if_pos rfl, zg_R e2, Option.bind_some, hP.2.1.2.2.2.2.1, zd_at hP.2.2.2.2.2.2.1 b12 (by omega), Option.bind_some]
  · unfold ff_P_wayOf
    rw [zq_gd e2, if_neg (by decide), zg_R e2, Option.bind_some, hP.2.1.2.2.2.2.2, zd_at hP.2.2.2.2.2.2.2 b12 (by omega), Option.bind_some]
theorem kQ_chkE (hP0 : zo_P M0 45) {c p : Nat} (h : kQ_E M0 M tx c p) : ∀ (k fu b n : Nat), n ≤ 12 → mm_I M 45 0 = nI n → n - b = k → k + 1 ≤ fu → b ≤ 12 → lf_S_checkExits_2 41 45 fu (nI b) M = some M := by
  have hP := hP0.keep h.1.1
  have e2 := zo_e hP
  have e9 := kP_e9 h.2.1
  have fz : ∀ x : Int32, ff_S_fail 41 4 x M = some M := fun x => kP_fail2 h.2.1 h.2.ne 4 x
  intro k
  induction k with
  | zero =>
    intro fu b n h12 hn hk hf hb
    obtain ⟨fu, rfl⟩ : ∃ g, fu = g + 1 := ⟨fu - 1, by omega⟩
    show lb_S_checkExits_2 41 45 (lf_S_checkExits_2 41 45 fu) (nI b) M = _
    unfold lb_S_checkExits_2
    rw [zg_I e2, Option.bind_some, hn, if_pos (nI_le (show n ≤ b by omega) (by omega))]
  | succ k ih =>
    intro fu b n h12 hn hk hf hb
    obtain ⟨fu, rfl⟩ : ∃ g, fu = g + 1 := ⟨fu - 1, by omega⟩
    obtain ⟨w0, w1, w2, a8, a9⟩ := kQ_rd hP h.2.1 (show b < 12 by omega)
    show lb_S_checkExits_2 41 45 (lf_S_checkExits_2 41 45 fu) (nI b) M = _
    unfold lb_S_checkExits_2
    rw [zg_I e2, Option.bind_some, hn, if_neg (nI_ge (show b < n by omega) (by omega)), w0, Option.bind_some]
    simp only [zq_jp, w0, w1, w2, zg_I e2, zg_R e9, h.2.1.2.1.2.1, h.2.1.2.1.2.2, a8, a9, fz, Option.bind_some, nI_1, ih fu (b + 1) n h12 hn (by omega) (by omega) (by omega), ite_self]
def kQ_6 (M0 M : mm_T) (tx : (Nat → Nat) × Nat) (r : Option zT_R) (M' : mm_T) : Prop := match r with
  | none => M' = M
  | some a => kQ_E M0 M' tx a.1 a.2
theorem kQ_chkC (hp0 : ky_p M0) (hP0 : zo_P M0 45) (h : kQ_S M0 M tx Q F (zp_nb Q) e) : ∀ (k fu b : Nat), zp_nb Q - b = k → k + 14 ≤ fu → b ≤ zp_nb Q → ∃ M', lf_S_checkExits_2 41 45 fu (nI b) M = some M' ∧ kQ_6 M0 M tx (zT_chk Q F k b) M' := by
  have hP := hP0.keep h.1
  have hp := kQ_p hp0 h
  have e2 := zo_e hP
  have e9 := kP_e9 hp
  have hH := h.2.2.2.2.2.1
  have hV := h.2.2.2.2.2.2.2
  have h12 := hV.1
  intro k
  induction k with
  | zero =>
    intro fu b hk hf hb
    obtain ⟨fu, rfl⟩ : ∃ g, fu = g + 1 := ⟨fu - 1, by omega⟩
    show ∃ M', lb_S_checkExits_2 41 45 (lf_S_checkExits_2 41 45 fu) (nI b) M = some M' ∧ _
    unfold lb_S_checkExits_2
    rw [zg_I e2, Option.bind_some, hH.1, if_pos (nI_le (show zp_nb Q ≤ b by omega) (by omega))]
    exact ⟨M, rfl, rfl⟩
  | succ k ih =>
    intro fu b hk hf hb
    obtain ⟨fu, rfl⟩ : ∃ g, fu = g + 1 := ⟨fu - 1, by omega⟩
    have bn : b < zp_nb Q := by omega
    obtain ⟨w0, w1, w2, a8, a9⟩ := kQ_rd hP hp (show b < 12 by omega)
    obtain ⟨g0, _, g1, g2⟩ := hH.2.2.2.2 b bn
    obtain ⟨v0, v1, v2⟩ := hV.2.2.2.2.2.2.1 b bn
    -- an error is kept: the rest of the turn does nothing
    have bad : ∀ {p : Nat} {N : mm_T}, kQ_E M0 N tx 4 p → (ff_P_wayCount 45 (nI b) N = some (mm_I N 48 b) ∧ ff_P_wayOf 45 (nI b) 1 N = some (mm_I N 51 b) ∧ gf_I N 45 7 0 = some (mm_I N 45 0) ∧ gf_R N 41 6 9 = some 44 ∧ ff_D_at_a 44 (nI b) N = some (mm_I N 44 b) ∧ (∀ x : Int32, ff_S_fail 41 4 x N = some N) ∧ lf_S_checkExits_2 41 45 fu (nI (b + 1)) N = some N) := by
      intro p N hE
      obtain ⟨n, n12, hn⟩ := hE.1.2
      have hPN := hP0.keep hE.1.1
      obtain ⟨w0, w1, w2, a8, a9⟩ := kQ_rd hPN hE.2.1 (show b < 12 by omega)
      refine ⟨w0, w2, zg_I (zo_e hPN), (zg_R (kP_e9 hE.2.1)).trans (by rw [hE.2.1.2.1.2.2]), a9, fun x => kP_fail2 hE.2.1 hE.2.ne 4 x, ?_⟩
      exact kQ_chkE hP0 hE (n - (b + 1)) fu (b + 1) n n12 hn rfl (by omega) (by omega)
    have fl : ∀ p : Nat, ∃ N, ff_S_fail 41 4 (nI p) M = some N ∧ kQ_E M0 N tx 4 p := fun p => by
      obtain ⟨N, e1, x1⟩ := kP_fail hp h.2.1 h.2.2.1 h.2.2.2.1 4 p
      exact ⟨N, e1, kQ_ofX hp0 h x1 (by omega) (by omega)⟩
    show ∃ M', lb_S_checkExits_2 41 45 (lf_S_checkExits_2 41 45 fu) (nI b) M = some M' ∧ _
    unfold lb_S_checkExits_2
    rw [zg_I e2, Option.bind_some, hH.1, if_neg (nI_ge bn (by omega)), w0, Option.bind_some, g0]
    simp only [zq_jp]
    -- the second way
    have two : ¬ (1 ≤ zp_w Q b ∧ zp_nb Q ≤ zp_f Q b) → ∃ M', (if nI (zp_w Q b) ≤ (1 : Int32) then ((some (nI b + (1 : Int32))).bind fun x4 => lf_S_checkExits_2 41 45 fu x4 M) else ((ff_P_wayOf 45 (nI b) (1 : Int32) M).bind fun x5 => (gf_I M 45 7 0).bind fun x6 => if x5 < x6 then ((some (nI b + (1 : Int32))).bind fun x4 => lf_S_checkExits_2 41 45 fu x4 M) else ((gf_R M 41 6 9).bind fun x7 => (ff_D_at_a x7 (nI b) M).bind fun x8 => (ff_S_fail 41 (4 : Int32) x8 M).bind fun M3 => (some (nI b + (1 : Int32))).bind fun x4 => lf_S_checkExits_2 41 45 fu x4 M3))) = some M' ∧ kQ_6 M0 M tx (zT_chk Q F (k + 1) b) M' := by
      intro n1
      have ec : zT_chk Q F (k + 1) b = if zp_w Q b = 2 ∧ zp_nb Q ≤ zp_s Q b then some (4, (F b).2) else zT_chk Q F k (b + 1) := by
        show (if 1 ≤ zp_w Q b ∧ zp_nb Q ≤ zp_f Q b then _ else _) = _
        rw [if_neg n1]
      rw [ec]
      simp only [Option.bind_some, nI_1]
      by_cases c1 : zp_w Q b ≤ 1
      · rw [if_pos (show nI (zp_w Q b) ≤ (1 : Int32) from nI_le (b := 1) c1 (by omega)), if_neg (by omega)]
        exact ih fu (b + 1) (by omega) (by omega) (by omega)
      · have ew : zp_w Q b = 2 := by omega
        rw [if_neg (show ¬ nI (zp_w Q b) ≤ (1 : Int32) from nI_ge (b := zp_w Q b) (a := 1) (by omega) (by omega)), w2, Option.bind_some, g2 ew, zg_I e2, Option.bind_some, hH.1]
        by_cases c2 : zp_s Q b < zp_nb Q
        · rw [if_pos (nI_lt c2 (by omega)), if_neg (by omega)]
          exact ih fu (b + 1) (by omega) (by omega) (by omega)
        · obtain ⟨N, eN, hN⟩ := fl (F b).2
          rw [if_neg (nI_nlt (by omega) (by have := v2 ew; omega)), if_pos ⟨ew, by omega⟩, zg_R e9, Option.bind_some, hp.2.1.2.2, a9, Option.bind_some, (h.2.2.2.2.2.2.1 b bn).2 ew, eN, Option.bind_some, (bad hN).2.2.2.2.2.2]
          exact ⟨N, rfl, hN⟩
    by_cases c0 : zp_w Q b = 0
    · rw [if_pos (show nI (zp_w Q b) ≤ 0 from nI_le (b := 0) (by omega) (by omega)), w0, Option.bind_some, g0]
      exact two (by omega)
    · have g1' := g1 (by omega)
      have v1' := v1 (by omega)
      rw [if_neg (show ¬ nI (zp_w Q b) ≤ 0 from nI_ge (b := zp_w Q b) (a := 0) (by omega) (by omega)), w1, Option.bind_some, g1', zg_I e2, Option.bind_some, hH.1]
      by_cases c2 : zp_f Q b < zp_nb Q
      · rw [if_pos (nI_lt c2 (by omega)), w0, Option.bind_some, g0]
        have t := two (by omega)
        rw [zg_I e2] at t
        simp only [hH.1, Option.bind_some] at t ⊢
        exact t
      · obtain ⟨N, eN, hN⟩ := fl (F b).1
        obtain ⟨q1, q2, q3, q4, q5, q6, q7⟩ := bad hN
        have ec : zT_chk Q F (k + 1) b = some (4, (F b).1) := by
          show (if 1 ≤ zp_w Q b ∧ zp_nb Q ≤ zp_f Q b then _ else _) = _
          rw [if_pos ⟨by omega, by omega⟩]
        rw [ec, if_neg (nI_nlt (by omega) (by omega)), zg_R e9, Option.bind_some, hp.2.1.2.1, a8, Option.bind_some, (h.2.2.2.2.2.2.1 b bn).1 (by omega), eN, Option.bind_some]
        simp only [q1, q2, q3, q4, q5, q6, Option.bind_some, nI_1, q7, ite_self]
        exact ⟨N, rfl, hN⟩
theorem kQ_fin (h : kQ_S M0 M tx Q F (zp_nb Q) e) (h1 : 1 ≤ zp_nb Q) (hc : zT_chk Q F (zp_nb Q) 0 = none) : zo_H M 45 Q ∧ zp_V Q := by
  obtain ⟨_, _, _, _, _, ⟨g1, g2, g3, g4, g5⟩, _, ⟨v1, v2, v3, v4, v5, v6, v7, v8⟩⟩ := h
  have ok : ∀ (k b : Nat), zp_nb Q - b = k → zT_chk Q F k b = none → ∀ c, b ≤ c → c < zp_nb Q → (1 ≤ zp_w Q c → zp_f Q c < zp_nb Q) ∧ (zp_w Q c = 2 → zp_s Q c < zp_nb Q) := by
    intro k
    induction k with
    | zero => intro b hk _ c h1 h2; omega
    | succ k ih =>
      intro b hk hc c h1 h2
      have hc' : (if 1 ≤ zp_w Q b ∧ zp_nb Q ≤ zp_f Q b then some (4, (F b).1) else if zp_w Q b = 2 ∧ zp_nb Q ≤ zp_s Q b then some (4, (F b).2) else zT_chk Q F k (b + 1)) = none := hc
      by_cases c1 : 1 ≤ zp_w Q b ∧ zp_nb Q ≤ zp_f Q b
      · rw [if_pos c1] at hc'; cases hc'
      · rw [if_neg c1] at hc'
        by_cases c2 : zp_w Q b = 2 ∧ zp_nb Q ≤ zp_s Q b
        · rw [if_pos c2] at hc'; cases hc'
        · rw [if_neg c2] at hc'
          by_cases cb : c = b
          · subst cb; exact ⟨fun z => by omega, fun z => by omega⟩
          · exact ih (b + 1) (by omega) hc' c (by omega) h2
  refine ⟨⟨g1, g2, g3, fun b hb => g4 b hb h1, fun b hb => (g5 b hb).1, fun b hb => (g5 b hb).2.1, fun b hb => (g5 b hb).2.2.1, fun b hb => (g5 b hb).2.2.2⟩, h1, v1, v2, v3, v4, v5, fun b hb => ?_, v8⟩
  have o := ok (zp_nb Q) 0 rfl hc b (Nat.zero_le _) hb
  have v := v7 b hb
  exact ⟨v.1, o.1, fun z => ⟨(v.2.2 z).1, o.2 z⟩⟩
def kQ_7 (M0 : mm_T) (tx : (Nat → Nat) × Nat) (r : zp_T ⊕ zT_R) (v : Int32) (M' : mm_T) : Prop := match r with
  | .inl Q => v = 1 ∧ zf_F M0 M' ky_Ap ∧ ky_x M' tx ∧ mm_I M' 41 2 = 0 ∧ mm_I M' 41 3 = -1 ∧ zo_H M' 45 Q ∧ zp_V Q
  | .inr a => v = 0 ∧ zf_F M0 M' ky_Ap ∧ ky_x M' tx ∧ mm_I M' 41 2 = nI a.1 ∧ mm_I M' 41 3 = nI a.2 ∧ 0 < a.1 ∧ a.1 < 5
theorem kQ_parse (hp0 : ky_p M0) (hP0 : zo_P M0 45) (hx : ky_x M0 tx) : ∃ v M', ff_S_parse 41 45 M0 = some (v, M') ∧ kQ_7 M0 tx (zT_parse tx) v M' := by
  have e9 := kP_e9 hp0
  have f4 : zf_F M0 (mm_sI (mm_sI (mm_sI (mm_sI (mm_sI M0 41 2 0) 41 3 (-1)) 45 0 0) 45 1 0) 41 6 0) ky_Ap := by
    exact zf_tr (zf_tr (zf_tr (zf_tr (zf_I (by unfold ky_Ap; omega) _ _) (zf_I (by unfold ky_Ap; omega) _ _)) (zf_I (by unfold ky_Ap; omega) _ _)) (zf_I (by unfold ky_Ap; omega) _ _)) (zf_I (by unfold ky_Ap; omega) _ _)
  have rest : ∃ v M', (ff_S_readToken 41 (mm_sI (mm_sI (mm_sI (mm_sI (mm_sI M0 41 2 0) 41 3 (-1)) 45 0 0) 45 1 0) 41 6 0)).bind (fun M5 => lf_S_parse_27 (fun (M11 : mm_T) => (ff_S_checkExits 41 45 M11).bind fun M12 => (gf_I M12 41 6 2).bind fun x7 => if x7 = 0 then (some ((1 : Int32), M12)) else (some ((0 : Int32), M12))) 41 45 fu_L (0 : Int32) (0 : Int32) M5) = some (v, M') ∧ kQ_7 M0 tx (zT_parse tx) v M' := by
    have hp4 := hp0.keep f4
    have hx4 : ky_x (mm_sI (mm_sI (mm_sI (mm_sI (mm_sI M0 41 2 0) 41 3 (-1)) 45 0 0) 45 1 0) 41 6 0) tx := by
      refine ⟨?_, hx.2.1, fun i hi => ⟨?_, (hx.2.2 i hi).2⟩⟩
      · rw [zm_II, if_neg (by omega), zm_II, if_neg (by omega), zm_II, if_neg (by omega), zm_II, if_neg (by omega), zm_II, if_neg (by omega)]; exact hx.1
      · rw [zm_II, if_neg (by omega), zm_II, if_neg (by omega), zm_II, if_neg (by omega), zm_II, if_neg (by omega), zm_II, if_neg (by omega)]; exact (hx.2.2 i hi).1
    obtain ⟨M5, e5, f5, t5⟩ := kT_readC hp4 hx4 (e := 0) (Nat.zero_le _) (by rw [zm_II, if_pos ⟨rfl, rfl⟩]; rfl)
    have q2 : mm_I (mm_sI (mm_sI (mm_sI (mm_sI (mm_sI M0 41 2 0) 41 3 (-1)) 45 0 0) 45 1 0) 41 6 0) 41 2 = 0 := by
      rw [zm_II, if_neg (by omega), zm_II, if_neg (by omega), zm_II, if_neg (by omega), zm_II, if_neg (by omega), zm_II, if_pos ⟨rfl, rfl⟩]
    have q3 : mm_I (mm_sI (mm_sI (mm_sI (mm_sI (mm_sI M0 41 2 0) 41 3 (-1)) 45 0 0) 45 1 0) 41 6 0) 41 3 = -1 := by
      rw [zm_II, if_neg (by omega), zm_II, if_neg (by omega), zm_II, if_neg (by omega), zm_II, if_pos ⟨rfl, rfl⟩]
    have q4 : mm_I (mm_sI (mm_sI (mm_sI (mm_sI (mm_sI M0 41 2 0) 41 3 (-1)) 45 0 0) 45 1 0) 41 6 0) 45 0 = nI (zp_nb zQ_0) := by
      rw [zm_II, if_neg (by omega), zm_II, if_neg (by omega), zm_II, if_pos ⟨rfl, rfl⟩]; rfl
    have q5 : mm_I (mm_sI (mm_sI (mm_sI (mm_sI (mm_sI M0 41 2 0) 41 3 (-1)) 45 0 0) 45 1 0) 41 6 0) 45 1 = nI (zp_ni zQ_0) := by
      rw [zm_II, if_neg (by omega), zm_II, if_pos ⟨rfl, rfl⟩]; rfl
    have H0 : zQ_H M5 45 zQ_0 0 := ⟨(zf_i f5.1 (by omega) 0).trans q4, (zf_i f5.1 (by omega) 1).trans q5, fun i hi => absurd hi (Nat.not_lt_zero _), fun b hb h1 => absurd h1 (by decide), fun b hb => absurd hb (Nat.not_lt_zero _)⟩
    have V0 : zQ_V zQ_0 0 := ⟨by decide, by decide, rfl, fun b hb => absurd hb (Nat.not_lt_zero _), rfl, by decide, fun b hb => absurd hb (Nat.not_lt_zero _), fun b hb => absurd hb (Nat.not_lt_zero _)⟩
    have S5 : kQ_S M0 M5 tx zQ_0 (fun _ => (0, 0)) 0 0 := ⟨zf_tr f4 (zf_mono f5.1 (fun a z => by unfold ky_Ap; omega)), kT_xk hx4 f5, t5, (f5.2 2 (by omega)).trans q2, (f5.2 3 (by omega)).trans q3, H0, fun b hb => absurd hb (Nat.not_lt_zero _), V0⟩
    rw [e5, Option.bind_some, zs_fuel]
    generalize ek : (fun (M11 : mm_T) => (ff_S_checkExits 41 45 M11).bind fun M12 => (gf_I M12 41 6 2).bind fun x7 => if x7 = 0 then (some ((1 : Int32), M12)) else (some ((0 : Int32), M12))) = k0
    obtain ⟨M6, e6, g6⟩ := kQ_goC hp0 hP0 k0 701 999298 0 false zQ_0 (fun _ => (0, 0)) 0 0 M5 S5 rfl ⟨fun _ => rfl, fun _ => rfl⟩ (Nat.le_refl _) (by have := hx.2.1; omega) hx.2.1
    rw [show (999298 + 701 + 1 : Nat) = 1000000 from rfl, show nI 0 = (0 : Int32) from rfl] at e6
    simp only [Bool.false_eq_true, if_false] at e6
    rw [e6, ← ek]
    show ∃ v M', ((ff_S_checkExits 41 45 M6).bind fun M12 => (gf_I M12 41 6 2).bind fun x7 => if x7 = 0 then (some ((1 : Int32), M12)) else (some ((0 : Int32), M12))) = some (v, M') ∧ _
    unfold ff_S_checkExits zT_parse
    have bad : ∀ {N : mm_T} {a : zT_R}, kQ_E M0 N tx a.1 a.2 → ∃ v M', ((gf_I N 41 6 2).bind fun x7 => if x7 = 0 then (some ((1 : Int32), N)) else (some ((0 : Int32), N))) = some (v, M') ∧ kQ_7 M0 tx (.inr a) v M' := by
      intro N a hE
      rw [zg_I (kP_e9 hE.2.1), Option.bind_some, if_neg hE.2.ne]
      exact ⟨0, N, rfl, rfl, hE.1.1, hE.2.2.1, hE.2.2.2.2.1, hE.2.2.2.2.2.1, hE.2.2.2.2.2.2⟩
    cases er : zT_go tx 701 false zQ_0 (fun _ => (0, 0)) 0 with
    | inl a =>
      rw [er] at g6
      obtain ⟨e, n1, S6⟩ := g6
      have h12 := S6.2.2.2.2.2.2.2.1
      obtain ⟨M7, e7, g7⟩ := kQ_chkC hp0 hP0 S6 (zp_nb a.1) 1000000 0 (by omega) (by omega) (Nat.zero_le _)
      have e7' : lf_S_checkExits_2 41 45 fu_L (0 : Int32) M6 = some M7 := by rw [zs_fuel, show (0 : Int32) = nI 0 from rfl]; exact e7
      rw [zq_gd (kP_e9 (kQ_p hp0 S6)), e7', Option.bind_some]
      show ∃ v M', _ ∧ kQ_7 M0 tx (match zT_chk a.1 a.2 (zp_nb a.1) 0 with | none => .inl a.1 | some r => .inr r) v M'
      cases ec : zT_chk a.1 a.2 (zp_nb a.1) 0 with
      | none =>
        rw [ec] at g7
        have g7' : M7 = M6 := g7
        subst g7'
        rw [zg_I (kP_e9 (kQ_p hp0 S6)), Option.bind_some, S6.2.2.2.1, if_pos rfl]
        have fn := kQ_fin S6 n1 ec
        exact ⟨1, M7, rfl, rfl, S6.1, S6.2.1, S6.2.2.2.1, S6.2.2.2.2.1, fn.1, fn.2⟩
      | some r =>
        rw [ec] at g7
        exact bad g7
    | inr a =>
      rw [er] at g6
      have g6' : kQ_E M0 M6 tx a.1 a.2 := g6
      obtain ⟨n, n12, hn⟩ := g6'.1.2
      have e7 : lf_S_checkExits_2 41 45 fu_L (0 : Int32) M6 = some M6 := by
        rw [zs_fuel, show (0 : Int32) = nI 0 from rfl]
        exact kQ_chkE hP0 g6' n 1000000 0 n n12 hn (by omega) (by omega) (by omega)
      rw [zq_gd (kP_e9 g6'.2.1), e7, Option.bind_some]
      exact bad g6'
  have c : ff_P_clear 45 (mm_sI (mm_sI M0 41 2 0) 41 3 (-1)) = some (mm_sI (mm_sI (mm_sI (mm_sI M0 41 2 0) 41 3 (-1)) 45 0 0) 45 1 0) := by
    have e2 : (mm_k (mm_sI (mm_sI M0 41 2 0) 41 3 (-1)) 45).1 = 7 := zo_e hP0
    have e2' : (mm_k (mm_sI (mm_sI (mm_sI M0 41 2 0) 41 3 (-1)) 45 0 0) 45).1 = 7 := zo_e hP0
    unfold ff_P_clear
    rw [zq_gd e2, zp_I e2, Option.bind_some, zp_I e2', Option.bind_some]
  have e91 : (mm_k (mm_sI M0 41 2 0) 41).1 = 6 := e9
  have e92 : (mm_k (mm_sI (mm_sI (mm_sI (mm_sI M0 41 2 0) 41 3 (-1)) 45 0 0) 45 1 0) 41).1 = 6 := e9
  unfold ff_S_parse
  rw [zq_gd e9, zp_I e9, Option.bind_some, zp_I e91, Option.bind_some, c, Option.bind_some, zp_I e92, Option.bind_some]
  exact rest
end ZLCK
