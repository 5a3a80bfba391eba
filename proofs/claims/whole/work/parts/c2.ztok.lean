/-! ===== tokens of the text; the class reads one ===== -/
def zT_kd (b : Nat) : Nat := if 97 ≤ b ∧ b ≤ 122 then 1 else if 48 ≤ b ∧ b ≤ 57 then 2 else if b = 59 then 3 else 4
def zT_bl (b : Nat) : Bool := decide (b = 32) || decide (b = 10)
/-- start, kind, end, value of the token behind e -/
def zT_s' (tx : (Nat → Nat) × Nat) (e : Nat) : Nat := e + fa_first (fun j => !zT_bl (tx.1 (e + j))) (tx.2 - e)
def zT_k (tx : (Nat → Nat) × Nat) (e : Nat) : Nat := if zT_s' tx e < tx.2 then zT_kd (tx.1 (zT_s' tx e)) else 0
def zT_e (tx : (Nat → Nat) × Nat) (e : Nat) : Nat := if zT_k tx e = 0 then zT_s' tx e else if zT_k tx e ≤ 2 then zT_s' tx e + fa_first (fun j => decide (zT_kd (tx.1 (zT_s' tx e + j)) ≠ zT_k tx e)) (tx.2 - zT_s' tx e) else zT_s' tx e + 1
def zT_val (t : Nat → Nat) (s : Nat) : Nat → Nat
  | 0 => 0
  | j + 1 => min (zT_val t s j * 10 + (t (s + j) - 48)) 1000
def zT_v (tx : (Nat → Nat) × Nat) (e : Nat) : Nat := if zT_k tx e = 2 then zT_val tx.1 (zT_s' tx e) (zT_e tx e - zT_s' tx e) else 0
theorem zT_kd_pos (b : Nat) : 1 ≤ zT_kd b ∧ zT_kd b ≤ 4 := by unfold zT_kd; split <;> (try split) <;> (try split) <;> omega
theorem zT_s_ge (tx : (Nat → Nat) × Nat) (e : Nat) : e ≤ zT_s' tx e := by unfold zT_s'; omega
theorem zT_s_le {tx : (Nat → Nat) × Nat} {e : Nat} (h : e ≤ tx.2) : zT_s' tx e ≤ tx.2 := by
  have := fa_first_le (fun j => !zT_bl (tx.1 (e + j))) (tx.2 - e)
  unfold zT_s'; omega
theorem zT_s_lo {tx : (Nat → Nat) × Nat} {e j : Nat} (h1 : e ≤ j) (h2 : j < zT_s' tx e) : zT_bl (tx.1 j) = true := by
  have := fa_first_no (fun j => !zT_bl (tx.1 (e + j))) (tx.2 - e) (j - e) (by unfold zT_s' at h2; omega)
  rw [show e + (j - e) = j by omega] at this
  simpa using this
theorem zT_s_hi {tx : (Nat → Nat) × Nat} {e : Nat} (he : e ≤ tx.2) (h : zT_s' tx e < tx.2) : zT_bl (tx.1 (zT_s' tx e)) = false := by
  have := fa_first_yes (fun j => !zT_bl (tx.1 (e + j))) (tx.2 - e) (by unfold zT_s' at h; omega)
  unfold zT_s'
  simpa using this
theorem zT_k_le (tx : (Nat → Nat) × Nat) (e : Nat) : zT_k tx e ≤ 4 := by
  unfold zT_k; split
  · exact (zT_kd_pos _).2
  · omega
theorem zT_k0 {tx : (Nat → Nat) × Nat} {e : Nat} : zT_k tx e ≠ 0 ↔ zT_s' tx e < tx.2 := by
  unfold zT_k
  by_cases c : zT_s' tx e < tx.2
  · rw [if_pos c]; have := (zT_kd_pos (tx.1 (zT_s' tx e))).1; exact ⟨fun _ => c, fun _ => by omega⟩
  · rw [if_neg c]; exact ⟨fun z => absurd rfl z, fun z => absurd z c⟩
theorem zT_first_pos {tx : (Nat → Nat) × Nat} {e : Nat} (h : zT_k tx e ≠ 0) : 0 < fa_first (fun j => decide (zT_kd (tx.1 (zT_s' tx e + j)) ≠ zT_k tx e)) (tx.2 - zT_s' tx e) := by
  have hs := zT_k0.mp h
  rcases Nat.eq_zero_or_pos (fa_first (fun j => decide (zT_kd (tx.1 (zT_s' tx e + j)) ≠ zT_k tx e)) (tx.2 - zT_s' tx e)) with z | z
  · exfalso
    have y := fa_first_yes (fun j => decide (zT_kd (tx.1 (zT_s' tx e + j)) ≠ zT_k tx e)) (tx.2 - zT_s' tx e) (by omega)
    rw [z] at y
    simp only [Nat.add_zero, decide_eq_true_eq] at y
    unfold zT_k at y
    rw [if_pos hs] at y
    exact y rfl
  · exact z
theorem zT_e_le {tx : (Nat → Nat) × Nat} {e : Nat} (h : e ≤ tx.2) : zT_s' tx e ≤ zT_e tx e ∧ zT_e tx e ≤ tx.2 ∧ (zT_k tx e ≠ 0 → zT_s' tx e < zT_e tx e) := by
  have h1 := zT_s_le h
  have h2 := fa_first_le (fun j => decide (zT_kd (tx.1 (zT_s' tx e + j)) ≠ zT_k tx e)) (tx.2 - zT_s' tx e)
  by_cases c : zT_k tx e = 0
  · unfold zT_e; rw [if_pos c]; exact ⟨Nat.le_refl _, h1, fun z => absurd c z⟩
  · have hs := zT_k0.mp c
    have hp := zT_first_pos c
    unfold zT_e
    rw [if_neg c]
    split <;> omega
theorem zT_in {tx : (Nat → Nat) × Nat} {e j : Nat} (h : zT_k tx e = 1 ∨ zT_k tx e = 2) (h1 : zT_s' tx e ≤ j) (h2 : j < zT_e tx e) : zT_kd (tx.1 j) = zT_k tx e := by
  have he : zT_e tx e = zT_s' tx e + fa_first (fun j => decide (zT_kd (tx.1 (zT_s' tx e + j)) ≠ zT_k tx e)) (tx.2 - zT_s' tx e) := by
    unfold zT_e; rw [if_neg (by omega), if_pos (by omega)]
  have := fa_first_no (fun j => decide (zT_kd (tx.1 (zT_s' tx e + j)) ≠ zT_k tx e)) (tx.2 - zT_s' tx e) (j - zT_s' tx e) (by omega)
  rw [show zT_s' tx e + (j - zT_s' tx e) = j by omega] at this
  simpa using this
theorem zT_out {tx : (Nat → Nat) × Nat} {e : Nat} (he : e ≤ tx.2) (h : zT_k tx e = 1 ∨ zT_k tx e = 2) (h2 : zT_e tx e < tx.2) : zT_kd (tx.1 (zT_e tx e)) ≠ zT_k tx e := by
  have hs := zT_s_le he
  have ee : zT_e tx e = zT_s' tx e + fa_first (fun j => decide (zT_kd (tx.1 (zT_s' tx e + j)) ≠ zT_k tx e)) (tx.2 - zT_s' tx e) := by
    unfold zT_e; rw [if_neg (by omega), if_pos (by omega)]
  have := fa_first_yes (fun j => decide (zT_kd (tx.1 (zT_s' tx e + j)) ≠ zT_k tx e)) (tx.2 - zT_s' tx e) (by omega)
  rw [ee]
  simpa using this
theorem zT_val_le (t : Nat → Nat) (s : Nat) : ∀ n, zT_val t s n ≤ 1000
  | 0 => Nat.zero_le _
  | n + 1 => Nat.min_le_right _ _
theorem zT_v_le (tx : (Nat → Nat) × Nat) (e : Nat) : zT_v tx e ≤ 1000 := by
  unfold zT_v; split
  · exact zT_val_le _ _ _
  · omega
theorem zT_dig {b : Nat} (h : zT_kd b = 2) : 48 ≤ b ∧ b ≤ 57 := by
  unfold zT_kd at h
  split at h
  · omega
  · split at h
    · assumption
    · split at h <;> omega
theorem zT_let {b : Nat} (h : zT_kd b = 1) : 97 ≤ b ∧ b ≤ 122 := by
  unfold zT_kd at h
  split at h
  · assumption
  · split at h
    · omega
    · split at h <;> omega
/-! the class's little questions -/
theorem zT_kindC {b : Nat} (hb : b < 256) (M : mm_T) : ff_S_tokenKind (nI b) M = some (nI (zT_kd b)) := by
  unfold ff_S_tokenKind zT_kd
  simp only [zq_jp]
  by_cases c1 : b < 97
  · rw [if_pos (show nI b < (97 : Int32) from nI_lt (b := 97) c1 (by omega)), if_neg (show ¬ (97 ≤ b ∧ b ≤ 122) by omega)]
    by_cases c2 : b < 48
    · rw [if_pos (show nI b < (48 : Int32) from nI_lt (b := 48) c2 (by omega)), if_neg (show ¬ (48 ≤ b ∧ b ≤ 57) by omega)]
      by_cases c3 : b = 59
      · omega
      · rw [if_neg (show ¬ nI b = (59 : Int32) from fun z => c3 ((nI_eq (b := 59) (by omega) (by omega)).mp z)), if_neg c3]; rfl
    · rw [if_neg (show ¬ nI b < (48 : Int32) from nI_nlt (b := 48) (by omega) (by omega))]
      by_cases c3 : 57 < b
      · rw [if_pos (show (57 : Int32) < nI b from nI_lt (a := 57) c3 (by omega)), if_neg (show ¬ (48 ≤ b ∧ b ≤ 57) by omega)]
        by_cases c4 : b = 59
        · rw [if_pos (by rw [c4]; rfl), if_pos c4]; rfl
        · rw [if_neg (show ¬ nI b = (59 : Int32) from fun z => c4 ((nI_eq (b := 59) (by omega) (by omega)).mp z)), if_neg c4]; rfl
      · rw [if_neg (show ¬ (57 : Int32) < nI b from nI_nlt (a := 57) (by omega) (by omega)), if_pos (show 48 ≤ b ∧ b ≤ 57 by omega)]; rfl
  · rw [if_neg (show ¬ nI b < (97 : Int32) from nI_nlt (b := 97) (by omega) (by omega))]
    by_cases c2 : 122 < b
    · rw [if_pos (show (122 : Int32) < nI b from nI_lt (a := 122) c2 (by omega)), if_neg (show ¬ (97 ≤ b ∧ b ≤ 122) by omega), if_neg (show ¬ nI b < (48 : Int32) from nI_nlt (b := 48) (by omega) (by omega)), if_pos (show (57 : Int32) < nI b from nI_lt (a := 57) (by omega) (by omega)), if_neg (show ¬ (48 ≤ b ∧ b ≤ 57) by omega), if_neg (show ¬ nI b = (59 : Int32) from fun z => by have := (nI_eq (b := 59) (by omega) (by omega)).mp z; omega), if_neg (show ¬ b = 59 by omega)]; rfl
    · rw [if_neg (show ¬ (122 : Int32) < nI b from nI_nlt (a := 122) (by omega) (by omega)), if_pos (show 97 ≤ b ∧ b ≤ 122 by omega)]; rfl
theorem zT_blankC {b : Nat} (hb : b < 256) (M : mm_T) : ff_S_isBlank (nI b) M = some (zb_B (zT_bl b)) := by
  unfold ff_S_isBlank zT_bl
  rw [zq_jp]
  by_cases c1 : b = 32
  · rw [if_pos (by rw [c1]; rfl), decide_eq_true c1]; rfl
  · rw [if_neg (show ¬ nI b = (32 : Int32) from fun z => c1 ((nI_eq (b := 32) (by omega) (by omega)).mp z)), decide_eq_false c1]
    by_cases c2 : b = 10
    · rw [if_pos (by rw [c2]; rfl), decide_eq_true c2]; rfl
    · rw [if_neg (show ¬ nI b = (10 : Int32) from fun z => c2 ((nI_eq (b := 10) (by omega) (by omega)).mp z)), decide_eq_false c2]; rfl
/-- the class stands at the token behind e -/
def zT_C (M : mm_T) (tx : (Nat → Nat) × Nat) (e : Nat) : Prop := e ≤ tx.2 ∧ mm_I M 9 4 = nI (zT_k tx e) ∧ mm_I M 9 5 = nI (zT_s' tx e) ∧ mm_I M 9 6 = nI (zT_e tx e) ∧ mm_I M 9 7 = nI (zT_v tx e)
/-- only the fields of the token changed -/
def zT_FC (M M' : mm_T) : Prop := zf_F M M' (fun a => a = 9) ∧ ∀ k, k < 4 ∨ 7 < k → mm_I M' 9 k = mm_I M 9 k
theorem zT_FC_rfl (M : mm_T) : zT_FC M M := ⟨zf_rfl _ _, fun _ _ => rfl⟩
theorem zT_FC_tr {M M1 M2 : mm_T} (h : zT_FC M M1) (h2 : zT_FC M1 M2) : zT_FC M M2 := ⟨zf_tr h.1 h2.1, fun k hk => (h2.2 k hk).trans (h.2 k hk)⟩
theorem zT_FC_1 (M : mm_T) {k : Nat} (v : Int32) (h1 : 4 ≤ k) (h2 : k ≤ 7) : zT_FC M (mm_sI M 9 k v) := ⟨zf_I1 _ _ _ _, fun j hj => by rw [zm_II, if_neg (by omega)]⟩
section ZYC2
variable {M : mm_T} {tx : (Nat → Nat) × Nat}
theorem zT_xk (hx : zy_x M tx) {M' : mm_T} (f : zT_FC M M') : zy_x M' tx := ⟨(f.2 1 (by omega)).trans hx.1, hx.2.1, fun i hi => ⟨(zf_i f.1 (by omega) i).trans (hx.2.2 i hi).1, (hx.2.2 i hi).2⟩⟩
theorem zT_atC (hp : zy_p M) (hx : zy_x M tx) {i : Nat} (hi : i < tx.2) : ff_D_at_a 10 (nI i) M = some (nI (tx.1 i)) := by
  have := hx.2.1
  rw [zd_at hp.2.2.1 (show i < 700 by omega) (by omega), (hx.2.2 i hi).1]
theorem zT_readC (hp : zy_p M) (hx : zy_x M tx) {e : Nat} (he : e ≤ tx.2) (h6 : mm_I M 9 6 = nI e) : ∃ M', ff_S_readToken 9 M = some M' ∧ zT_FC M M' ∧ zT_C M' tx e := by
  have h7 := hx.2.1
  have e9 : (mm_k M 9).1 = 6 := by rw [hp.1]
  have hsle := zT_s_le he
  have hel := zT_e_le he
  have hkl := zT_k_le tx e
  suffices goal : zh_H (ff_S_readToken 9 M) (fun M' => zT_FC M M' ∧ zT_C M' tx e) from goal
  unfold ff_S_readToken
  rw [zq_gd e9, zg_I e9, Option.bind_some, h6, zp_I e9, Option.bind_some]
  -- the blanks
  have aux : ∀ (k0 : mm_T → Option mm_T) (Q : mm_T → Prop), (∀ N, zT_FC M N → mm_I N 9 5 = nI (zT_s' tx e) → zh_H (k0 N) Q) → zh_H (lf_S_readToken_8 k0 9 fu_L (mm_sI M 9 5 (nI e))) Q := by
    intro k0 Q hk
    refine zh_loop (F := fun fu (σ : Nat × mm_T) => lf_S_readToken_8 k0 9 fu σ.2) (fun σ => e ≤ σ.1 ∧ σ.1 ≤ zT_s' tx e ∧ zT_FC M σ.2 ∧ mm_I σ.2 9 5 = nI σ.1) (fun σ => zT_s' tx e - σ.1) ?_ fu_L (e, mm_sI M 9 5 (nI e)) ⟨Nat.le_refl _, zT_s_ge tx e, zT_FC_1 M _ (by omega) (by omega), by show mm_I (mm_sI M 9 5 (nI e)) 9 5 = nI e; rw [zm_II, if_pos ⟨rfl, rfl⟩]⟩ (by rw [zs_fuel]; show zT_s' tx e - e < _; omega)
    intro fu σ ⟨g0, g1, g2, g3⟩ k
    obtain ⟨j, N⟩ := σ
    simp only at g0 g1 g2 g3
    have pN := hp.keep g2.1
    have xN := zT_xk hx g2
    have eN : (mm_k N 9).1 = 6 := by rw [pN.1]
    show zh_H (lb_S_readToken_8 k0 9 (lf_S_readToken_8 k0 9 fu) N) _
    unfold lb_S_readToken_8
    simp only [zg_I eN, zg_R eN, Option.bind_some, g3, xN.1, pN.2.1.1]
    by_cases c : j < tx.2
    · rw [if_neg (nI_ge c (by omega)), zT_atC pN xN c, Option.bind_some, zT_blankC (xN.2.2 j c).2, Option.bind_some]
      by_cases d : j < zT_s' tx e
      · rw [zT_s_lo g0 d, if_neg (by decide), nI_1, zp_I eN, Option.bind_some]
        exact k (j + 1, _) ⟨by show e ≤ j + 1; omega, by show j + 1 ≤ _; omega, zT_FC_tr g2 (zT_FC_1 N _ (by omega) (by omega)), by show mm_I (mm_sI N 9 5 (nI (j + 1))) 9 5 = nI (j + 1); rw [zm_II, if_pos ⟨rfl, rfl⟩]⟩ (by show zT_s' tx e - (j + 1) < zT_s' tx e - j; omega)
      · have ej : j = zT_s' tx e := by omega
        subst ej
        rw [zT_s_hi he c, if_pos (by decide)]
        exact hk N g2 g3
    · rw [if_pos (nI_le (by omega) (by omega))]
      have ej : j = zT_s' tx e := by omega
      subst ej
      exact hk N g2 g3
  refine aux _ _ (fun N f g5 => ?_)
  have pN := hp.keep f.1
  have xN := zT_xk hx f
  have eN : (mm_k N 9).1 = 6 := by rw [pN.1]
  show zh_H ((gf_I N 9 6 5).bind _) _
  rw [zg_I eN, Option.bind_some, g5, zg_I eN, Option.bind_some, xN.1, zq_jp]
  have tail : ∀ kd, kd = zT_k tx e → zh_H ((pf_I N 9 6 4 (nI kd)).bind fun M4 => (pf_I M4 9 6 7 (0 : Int32)).bind fun M5 => (gf_I M5 9 6 5).bind fun x12 => (pf_I M5 9 6 6 x12).bind fun M6 => lf_S_readToken_95 9 fu_L M6) (fun M' => zT_FC M M' ∧ zT_C M' tx e) := by
    intro kd ekd
    subst ekd
    have q1 := zT_FC_1 N (k := 4) (nI (zT_k tx e)) (by omega) (by omega)
    have p1 := pN.keep q1.1
    have q2 := zT_FC_tr q1 (zT_FC_1 _ (k := 7) 0 (by omega) (by omega))
    have p2 := pN.keep q2.1
    have i5 : mm_I (mm_sI (mm_sI N 9 4 (nI (zT_k tx e))) 9 7 0) 9 5 = nI (zT_s' tx e) := by rw [zm_II, if_neg (by omega), zm_II, if_neg (by omega), g5]
    rw [zp_I eN, Option.bind_some, zp_I (by rw [p1.1]), Option.bind_some, zg_I (by rw [p2.1]), Option.bind_some, i5, zp_I (by rw [p2.1]), Option.bind_some]
    have q3 := zT_FC_tr q2 (zT_FC_1 _ (k := 6) (nI (zT_s' tx e)) (by omega) (by omega))
    have i4 : mm_I (mm_sI (mm_sI (mm_sI N 9 4 (nI (zT_k tx e))) 9 7 0) 9 6 (nI (zT_s' tx e))) 9 4 = nI (zT_k tx e) := by rw [zm_II, if_neg (by omega), zm_II, if_neg (by omega), zm_II, if_pos ⟨rfl, rfl⟩]
    have i5' : mm_I (mm_sI (mm_sI (mm_sI N 9 4 (nI (zT_k tx e))) 9 7 0) 9 6 (nI (zT_s' tx e))) 9 5 = nI (zT_s' tx e) := by rw [zm_II, if_neg (by omega), i5]
    have i6 : mm_I (mm_sI (mm_sI (mm_sI N 9 4 (nI (zT_k tx e))) 9 7 0) 9 6 (nI (zT_s' tx e))) 9 6 = nI (zT_s' tx e) := by rw [zm_II, if_pos ⟨rfl, rfl⟩]
    have i7 : mm_I (mm_sI (mm_sI (mm_sI N 9 4 (nI (zT_k tx e))) 9 7 0) 9 6 (nI (zT_s' tx e))) 9 7 = 0 := by rw [zm_II, if_neg (by omega), zm_II, if_pos ⟨rfl, rfl⟩]
    generalize mm_sI (mm_sI (mm_sI N 9 4 (nI (zT_k tx e))) 9 7 0) 9 6 (nI (zT_s' tx e)) = N3 at q3 i4 i5' i6 i7 ⊢
    refine zh_loop (F := fun fu (σ : Nat × mm_T) => lf_S_readToken_95 9 fu σ.2) (fun σ => zT_s' tx e ≤ σ.1 ∧ σ.1 ≤ zT_e tx e ∧ zT_FC M σ.2 ∧ mm_I σ.2 9 4 = nI (zT_k tx e) ∧ mm_I σ.2 9 5 = nI (zT_s' tx e) ∧ mm_I σ.2 9 6 = nI σ.1 ∧ mm_I σ.2 9 7 = nI (if zT_k tx e = 2 then zT_val tx.1 (zT_s' tx e) (σ.1 - zT_s' tx e) else 0)) (fun σ => zT_e tx e - σ.1) ?_ fu_L (zT_s' tx e, N3) ⟨Nat.le_refl _, hel.1, zT_FC_tr f q3, i4, i5', i6, by
      show mm_I N3 9 7 = nI (if zT_k tx e = 2 then zT_val tx.1 (zT_s' tx e) (zT_s' tx e - zT_s' tx e) else 0)
      rw [i7, Nat.sub_self]
      split <;> rfl⟩ (by rw [zs_fuel]; show zT_e tx e - zT_s' tx e < _; omega)
    intro fu σ ⟨g0, g1, g2, g4, g5, g6, g7⟩ k
    obtain ⟨j, N⟩ := σ
    simp only at g0 g1 g2 g4 g5 g6 g7
    have pN := hp.keep g2.1
    have xN := zT_xk hx g2
    have eN : (mm_k N 9).1 = 6 := by rw [pN.1]
    have done : j = zT_e tx e → zh_H (some N) (fun M' => zT_FC M M' ∧ zT_C M' tx e) := by
      intro ej
      subst ej
      refine zh_some ⟨g2, he, g4, g5, g6, ?_⟩
      rw [g7]
      rfl
    show zh_H (lb_S_readToken_95 9 (lf_S_readToken_95 9 fu) N) _
    unfold lb_S_readToken_95
    simp only [zg_I eN, zg_R eN, Option.bind_some, g4, g5, g6, g7, xN.1, pN.2.1.1, zq_jp]
    by_cases c : j < tx.2
    · rw [if_neg (nI_ge c (by omega)), zT_atC pN xN c, Option.bind_some, zT_kindC (xN.2.2 j c).2, Option.bind_some, Option.bind_some]
      have kdp := zT_kd_pos (tx.1 j)
      by_cases d : zT_kd (tx.1 j) = zT_k tx e
      · rw [if_pos (by rw [d])]
        have k0 : zT_k tx e ≠ 0 := by omega
        -- the step
        have step : j < zT_e tx e → zh_H (if nI (zT_k tx e) = (2 : Int32) then (ff_JM_min (nI (if zT_k tx e = 2 then zT_val tx.1 (zT_s' tx e) (j - zT_s' tx e) else 0) * 10 + nI (tx.1 j) - 48) 1000 N).bind fun x28 => (pf_I N 9 6 7 x28).bind fun M9 => (gf_I M9 9 6 6).bind fun x23 => (pf_I M9 9 6 6 (x23 + 1)).bind fun M8 => lf_S_readToken_95 9 fu M8 else (pf_I N 9 6 6 (nI j + 1)).bind fun M8 => lf_S_readToken_95 9 fu M8) (fun M' => zT_FC M M' ∧ zT_C M' tx e) := by
          intro hj
          by_cases c2 : zT_k tx e = 2
          · have hd := zT_dig (b := tx.1 j) (by rw [d]; exact c2)
            have hv := zT_val_le tx.1 (zT_s' tx e) (j - zT_s' tx e)
            rw [if_pos (show nI (zT_k tx e) = (2 : Int32) by rw [c2]; rfl), if_pos c2, show (10 : Int32) = nI 10 from rfl, zi_mul, nI_add, show (48 : Int32) = nI 48 from rfl, zi_sub (by omega)]
            have em : ff_JM_min (nI (zT_val tx.1 (zT_s' tx e) (j - zT_s' tx e) * 10 + tx.1 j - 48)) 1000 N = some (nI (zT_val tx.1 (zT_s' tx e) (j - zT_s' tx e + 1))) := by
              unfold ff_JM_min
              show _ = some (nI (min (zT_val tx.1 (zT_s' tx e) (j - zT_s' tx e) * 10 + (tx.1 (zT_s' tx e + (j - zT_s' tx e)) - 48)) 1000))
              rw [show zT_s' tx e + (j - zT_s' tx e) = j by omega]
              by_cases m : 1000 < zT_val tx.1 (zT_s' tx e) (j - zT_s' tx e) * 10 + tx.1 j - 48
              · rw [if_pos (show (1000 : Int32) < nI _ from nI_lt (a := 1000) m (by omega)), Nat.min_eq_right (by omega)]; rfl
              · rw [if_neg (show ¬ (1000 : Int32) < nI _ from nI_nlt (a := 1000) (by omega) (by omega)), Nat.min_eq_left (by omega)]
                congr 2
                omega
            rw [em, Option.bind_some, zp_I eN, Option.bind_some]
            have r1 := zT_FC_1 N (k := 7) (nI (zT_val tx.1 (zT_s' tx e) (j - zT_s' tx e + 1))) (by omega) (by omega)
            have pr1 := pN.keep r1.1
            rw [zg_I (by rw [pr1.1]), Option.bind_some, zm_II, if_neg (by omega), g6, nI_1, zp_I (by rw [pr1.1]), Option.bind_some]
            refine k (j + 1, _) ⟨by show _ ≤ j + 1; omega, by show j + 1 ≤ _; omega, zT_FC_tr g2 (zT_FC_tr r1 (zT_FC_1 _ _ (by omega) (by omega))), ?_, ?_, ?_, ?_⟩ (by show zT_e tx e - (j + 1) < zT_e tx e - j; omega)
            · show mm_I (mm_sI (mm_sI N 9 7 _) 9 6 _) 9 4 = _
              rw [zm_II, if_neg (by omega), zm_II, if_neg (by omega), g4]
            · show mm_I (mm_sI (mm_sI N 9 7 _) 9 6 _) 9 5 = _
              rw [zm_II, if_neg (by omega), zm_II, if_neg (by omega), g5]
            · show mm_I (mm_sI (mm_sI N 9 7 _) 9 6 _) 9 6 = nI (j + 1)
              rw [zm_II, if_pos ⟨rfl, rfl⟩]
            · show mm_I (mm_sI (mm_sI N 9 7 _) 9 6 _) 9 7 = nI (if zT_k tx e = 2 then zT_val tx.1 (zT_s' tx e) (j + 1 - zT_s' tx e) else 0)
              rw [zm_II, if_neg (by omega), zm_II, if_pos ⟨rfl, rfl⟩, if_pos c2, show j + 1 - zT_s' tx e = j - zT_s' tx e + 1 by omega]
          · rw [if_neg (show ¬ nI (zT_k tx e) = (2 : Int32) from fun z => c2 ((nI_eq (b := 2) (by omega) (by omega)).mp z)), nI_1, zp_I eN, Option.bind_some]
            refine k (j + 1, _) ⟨by show _ ≤ j + 1; omega, by show j + 1 ≤ _; omega, zT_FC_tr g2 (zT_FC_1 _ _ (by omega) (by omega)), ?_, ?_, ?_, ?_⟩ (by show zT_e tx e - (j + 1) < zT_e tx e - j; omega)
            · show mm_I (mm_sI N 9 6 _) 9 4 = _
              rw [zm_II, if_neg (by omega), g4]
            · show mm_I (mm_sI N 9 6 _) 9 5 = _
              rw [zm_II, if_neg (by omega), g5]
            · show mm_I (mm_sI N 9 6 _) 9 6 = nI (j + 1)
              rw [zm_II, if_pos ⟨rfl, rfl⟩]
            · show mm_I (mm_sI N 9 6 _) 9 7 = nI (if zT_k tx e = 2 then zT_val tx.1 (zT_s' tx e) (j + 1 - zT_s' tx e) else 0)
              rw [zm_II, if_neg (by omega), g7, if_neg c2, if_neg c2]
        by_cases js : j = zT_s' tx e
        · rw [if_pos (by rw [js])]
          exact step (by have := hel.2.2 k0; omega)
        · rw [if_neg (fun z => js ((nI_eq (by omega) (by omega)).mp z))]
          unfold ff_S_canGrow
          rw [zq_jp]
          by_cases k1 : zT_k tx e = 1
          · rw [if_pos (by rw [k1]; rfl), Option.bind_some, if_neg (by decide)]
            refine step ?_
            rcases Nat.lt_or_ge j (zT_e tx e) with q | q
            · exact q
            · have ej : j = zT_e tx e := by omega
              exact absurd (ej ▸ d) (zT_out he (Or.inl k1) (by omega))
          · rw [if_neg (show ¬ nI (zT_k tx e) = (1 : Int32) from fun z => k1 ((nI_eq (b := 1) (by omega) (by omega)).mp z))]
            by_cases k2 : zT_k tx e = 2
            · rw [if_pos (show nI (zT_k tx e) = (2 : Int32) by rw [k2]; rfl), Option.bind_some, if_neg (by decide)]
              refine step ?_
              rcases Nat.lt_or_ge j (zT_e tx e) with q | q
              · exact q
              · have ej : j = zT_e tx e := by omega
                exact absurd (ej ▸ d) (zT_out he (Or.inr k2) (by omega))
            · rw [if_neg (show ¬ nI (zT_k tx e) = (2 : Int32) from fun z => k2 ((nI_eq (b := 2) (by omega) (by omega)).mp z)), Option.bind_some, if_pos rfl]
              refine done ?_
              have : zT_e tx e = zT_s' tx e + 1 := by unfold zT_e; rw [if_neg k0, if_neg (by omega)]
              omega
      · rw [if_neg (fun z => d ((nI_eq (by omega) (by omega)).mp z))]
        refine done ?_
        rcases Nat.lt_or_ge j (zT_e tx e) with q | q
        · exfalso
          by_cases k0 : zT_k tx e = 0
          · have : zT_e tx e = zT_s' tx e := by unfold zT_e; rw [if_pos k0]
            omega
          · by_cases k2 : zT_k tx e ≤ 2
            · exact d (zT_in (by omega) g0 q)
            · have : zT_e tx e = zT_s' tx e + 1 := by unfold zT_e; rw [if_neg k0, if_neg k2]
              have ej : j = zT_s' tx e := by omega
              apply d
              rw [ej]
              unfold zT_k
              rw [if_pos (zT_k0.mp k0)]
        · omega
    · rw [if_pos (nI_le (by omega) (by omega))]
      exact done (by omega)
  by_cases c : zT_s' tx e < tx.2
  · rw [if_neg (nI_ge c (by omega)), zg_R eN, Option.bind_some, pN.2.1.1, Option.bind_some, zT_atC pN xN c, Option.bind_some, zT_kindC (xN.2.2 _ c).2, Option.bind_some]
    exact tail _ (by unfold zT_k; rw [if_pos c])
  · rw [if_pos (nI_le (by omega) (by omega))]
    exact tail 0 (by unfold zT_k; rw [if_neg c])
end ZYC2
