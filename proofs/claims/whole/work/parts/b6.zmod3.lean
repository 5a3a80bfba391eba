/-! ===== the reference: removeDead ===== -/
/-- a new row W, and what the rounds write -/
def zy_BW (W a : Nat) : Prop := a = 53 ∨ (55 ≤ a ∧ a ≤ 58) ∨ a = W
section ZYB6
variable {M : mm_T}
theorem zt_S.keepN {M' : mm_T} {A : Nat → Prop} {k u : Nat} {P : zp_T} {o : Nat} (h : zt_S M o P) (h63 : 63 ≤ mm_n M) (f : zf_X M M' A k u) (h52 : ¬ A 52) (h53 : ¬ A 53) : zt_S M' o P := ⟨h.1.keepX h63 f, (zu_i f (by omega) h52 2).trans h.2.1, h.2.2.1, h.2.2.2.1.keep (fun k => zu_i f (by omega) h53 k), h.2.2.2.2⟩
/-- one round: a program P in slot 0 becomes zp_d1 P -/
theorem zy_roundM {P : zp_T} (hS : zt_S M 0 P) (h63 : 63 ≤ mm_n M) (hB : mm_n M + 2 < st_B) : ∃ M', ff_M_removesDead 52 M = some (nI (zp_ni P - zp_ni (zp_d1 P)), M') ∧ zf_X M M' (fun a => a = 53 ∨ (55 ≤ a ∧ a ≤ 58)) 1 40 ∧ (∀ k, 262 ≤ k → mm_I M' 53 k = mm_I M 53 k) ∧ zt_S M' 0 (zp_d1 P) := by
  have hV := hS.2.2.2.2
  have hni := hV.2.2.1
  unfold ff_M_removesDead
  rw [zq_gd (zt_e52 hS), show (40 : Int32) = nI 40 from rfl]
  unfold bd_2
  rw [zu_na (kd := 22) (n := 40) (by omega) (by omega), Option.bind_some]
  have a0 : zf_X M (mm_al M (22, 40) 40) (fun _ => False) 1 40 := zu_al _ _ _ _
  have kW0 : mm_k (mm_al M (22, 40) 40) (mm_n M + 1) = (22, 40) := zu_alk M (22, 40) 40
  have iW0 : ∀ j, mm_I (mm_al M (22, 40) 40) (mm_n M + 1) j = 0 := fun j => zu_alI M (22, 40) 40 j
  have S0 : zt_S (mm_al M (22, 40) 40) 0 P := hS.keepN h63 a0 (fun z => z) (fun z => z)
  show ∃ M', lf_M_removesDead_7 (fun (M4 : mm_T) => lf_M_removesDead_35 52 (mm_n M + 1) fu_L (0 : Int32) (39 : Int32) M4) 52 (mm_n M + 1) fu_L (0 : Int32) (mm_al M (22, 40) 40) = _ ∧ _
  suffices goal : zh_H (lf_M_removesDead_7 (fun (M4 : mm_T) => lf_M_removesDead_35 52 (mm_n M + 1) fu_L (0 : Int32) (39 : Int32) M4) 52 (mm_n M + 1) fu_L (0 : Int32) (mm_al M (22, 40) 40)) (fun y => ∃ N, y = (nI (zp_ni P - zp_ni (zp_d1 P)), N) ∧ zf_F (mm_al M (22, 40) 40) N (zy_BW (mm_n M + 1)) ∧ (∀ k, 262 ≤ k → mm_I N 53 k = mm_I (mm_al M (22, 40) 40) 53 k) ∧ zt_S N 0 (zp_d1 P)) by
    obtain ⟨y, e, N, rfl, f, o, S⟩ := goal
    have f2 := zu_tr (zu_al M (22, 40) 40 (zy_BW (mm_n M + 1))) (zu_F f)
    exact ⟨N, e, zu_wk (zu_sub f2 (B := fun a => a = 53 ∨ (55 ≤ a ∧ a ≤ 58)) (fun a q z => by unfold zy_BW at z; omega)) (by omega) (by omega) (fun a z => z), fun k hk => by rw [o k hk, zu_i a0 (by omega) (fun z => z)], S⟩
  have hW : 62 < mm_n M + 1 := by omega
  generalize mm_al M (22, 40) 40 = M0 at S0 kW0 iW0 ⊢
  generalize mm_n M + 1 = W at hW kW0 iW0 ⊢
  -- the dead ones are marked
  have aux : ∀ (k0 : mm_T → Option (Int32 × mm_T)) (Q : Int32 × mm_T → Prop), (∀ N, zf_F M0 N (fun a => (55 ≤ a ∧ a ≤ 58) ∨ a = W) → (∀ i, mm_I N W i = zb_B (decide (i < zp_ni P) && zp_b (zp_DD P i))) → zh_H (k0 N) Q) → zh_H (lf_M_removesDead_7 k0 52 W fu_L 0 M0) Q := by
    intro k0 Q hk
    refine zh_up (F := fun fu i N => lf_M_removesDead_7 k0 52 W fu i N) (zp_ni P) (fun n N => zf_F M0 N (fun a => (55 ≤ a ∧ a ≤ 58) ∨ a = W) ∧ ∀ i, mm_I N W i = zb_B (decide (i < n) && zp_b (zp_DD P i))) ?_ ?_ fu_L 0 M0 (Nat.zero_le _) (by rw [zs_fuel]; omega) ⟨zf_rfl _ _, fun i => by rw [iW0, decide_eq_false (Nat.not_lt_zero _)]; rfl⟩
    · intro fu n N hn ⟨g1, g2⟩ k
      have SN : zt_S N 0 P := S0.keep g1 (zf_i g1 (by omega) 2) (fun k => zf_i g1 (by omega) k)
      show zh_H (lb_M_removesDead_7 k0 52 W (lf_M_removesDead_7 k0 52 W fu) (nI n) N) _
      unfold lb_M_removesDead_7
      rw [zt_ni SN, Option.bind_some, if_neg (nI_ge hn (by omega))]
      obtain ⟨b, N2, e2, f2, hb⟩ := zt_isDead0 SN hn
      have kW2 : mm_k N2 W = (22, 40) := by rw [zf_k f2, zf_k g1, kW0]
      unfold bd_2
      rw [e2, Option.bind_some]
      show zh_H ((aw_Z N2 W (nI n) (zb_B b)).bind _) _
      rw [zw_Z kW2 (show n < 40 by omega) (by omega), Option.bind_some, Option.bind_some, nI_1]
      refine k _ ⟨zf_tr g1 (zf_tr (zf_mono f2 (fun a z => by unfold zt_A at z; omega)) (zf_mono (zf_I1 _ _ _ _) (fun a z => by omega))), fun i => ?_⟩
      rw [zm_II]
      by_cases c : i = n
      · rw [if_pos ⟨rfl, c⟩, c, decide_eq_true (Nat.lt_succ_self n), Bool.true_and, zp_b_eq hb]
      · rw [if_neg (fun z => c z.2), zf_i f2 (by unfold zt_A; omega), g2 i]
        congr 2
        exact decide_eq_decide.mpr (by omega)
    · intro fu N ⟨g1, g2⟩
      have SN : zt_S N 0 P := S0.keep g1 (zf_i g1 (by omega) 2) (fun k => zf_i g1 (by omega) k)
      show zh_H (lb_M_removesDead_7 k0 52 W (lf_M_removesDead_7 k0 52 W fu) (nI (zp_ni P)) N) _
      unfold lb_M_removesDead_7
      rw [zt_ni SN, Option.bind_some, if_pos (nI_le (Nat.le_refl _) (by omega))]
      exact hk N g1 g2
  refine aux _ _ (fun N0 f0 w0 => ?_)
  have SN0 : zt_S N0 0 P := S0.keep f0 (zf_i f0 (by omega) 2) (fun k => zf_i f0 (by omega) k)
  have kWN : mm_k N0 W = (22, 40) := by rw [zf_k f0, kW0]
  show zh_H (lf_M_removesDead_35 52 W fu_L (nI 0) (nI 40 - 1) N0) _
  refine zh_loop (F := fun fu (σ : Nat × mm_T × zp_T) => lf_M_removesDead_35 52 W fu (nI (zp_ni P - zp_ni σ.2.2)) (nI σ.1 - 1) σ.2.1) (fun σ => σ.1 ≤ 40 ∧ zt_E 0 N0 σ.2.1 ∧ zt_S σ.2.1 0 σ.2.2 ∧ min σ.1 (zp_ni P) ≤ zp_ni σ.2.2 ∧ zp_ni σ.2.2 ≤ zp_ni P ∧ zp_rd (fun i => zp_b (zp_DD P i)) (min σ.1 (zp_ni P)) σ.2.2 = zp_d1 P) (fun σ => σ.1) ?_ fu_L (40, N0, P) ⟨Nat.le_refl _, zt_E_rfl _ _, SN0, by show min 40 (zp_ni P) ≤ zp_ni P; omega, Nat.le_refl _, by show zp_rd _ (min 40 (zp_ni P)) P = _; rw [Nat.min_eq_right hni]; rfl⟩ (by rw [zs_fuel]; show 40 < _; omega) |> fun h => by
    have e0 : nI (zp_ni P - zp_ni P) = nI 0 := by rw [Nat.sub_self]
    have := h
    simp only [e0] at this
    exact this
  intro fu σ ⟨g0, g1, g2, g3, g4, g5⟩ k
  obtain ⟨n, N, Q⟩ := σ
  simp only at g0 g1 g2 g3 g4 g5
  show zh_H (lb_M_removesDead_35 52 W (lf_M_removesDead_35 52 W fu) (nI (zp_ni P - zp_ni Q)) (nI n - 1) N) _
  unfold lb_M_removesDead_35
  by_cases n0 : n = 0
  · subst n0
    rw [if_pos (by decide)]
    have eQ : Q = zp_d1 P := by rw [Nat.zero_min] at g5; exact g5
    subst eQ
    refine zh_some ⟨N, rfl, zf_tr (zf_mono f0 (fun a z => by unfold zy_BW; omega)) (zf_mono g1.1 (fun a z => by unfold zy_BW; omega)), fun k hk => ?_, g2⟩
    rw [g1.2 k (by omega), zf_i f0 (by omega)]
  · obtain ⟨m, rfl⟩ : ∃ m, n = m + 1 := ⟨n - 1, by omega⟩
    have en : nI (m + 1) - (1 : Int32) = nI m := nI_pred m
    have ez : nI m + (-1 : Int32) = nI m - 1 := by rw [Int32.sub_eq_add_neg]
    have kN : mm_k N W = (22, 40) := by rw [zf_k g1.1, kWN]
    rw [en, if_neg (nI_pos (by omega)), za_Z kN (show m < 40 by omega) (by omega), Option.bind_some, zq_jp, zf_i g1.1 (by omega), w0 m]
    by_cases cm : m < zp_ni P
    · rw [decide_eq_true cm, Bool.true_and]
      have g5' : zp_rd (fun i => zp_b (zp_DD P i)) m (if zp_b (zp_DD P m) = true then zp_rm Q m else Q) = zp_d1 P := by
        rw [show min (m + 1) (zp_ni P) = m + 1 by omega] at g5
        exact g5
      have hmin : min m (zp_ni P) = m := by omega
      cases ed : zp_b (zp_DD P m) with
      | false =>
        rw [ed, if_neg (by decide)] at g5'
        rw [if_pos (by decide)]
        show zh_H ((some (nI m + (-1 : Int32))).bind fun x7 => lf_M_removesDead_35 52 W fu (nI (zp_ni P - zp_ni Q)) x7 N) _
        rw [Option.bind_some, ez]
        exact k (m, N, Q) ⟨by show m ≤ 40; omega, g1, g2, by show min m (zp_ni P) ≤ zp_ni Q; omega, g4, by show zp_rd _ (min m (zp_ni P)) Q = _; rw [hmin]; exact g5'⟩ (by show m < m + 1; omega)
      | true =>
        rw [ed, if_pos rfl] at g5'
        have hiQ : m < zp_ni Q := by omega
        obtain ⟨N2, e2, f2, h2⟩ := zt_removes g2 hiQ
        have e' : zp_ni (zp_rm Q m) = zp_ni Q - 1 := rfl
        rw [if_neg (by decide), e2, Option.bind_some, Option.bind_some, nI_1]
        show zh_H ((some (nI m + (-1 : Int32))).bind fun x7 => lf_M_removesDead_35 52 W fu (nI (zp_ni P - zp_ni Q + 1)) x7 N2) _
        rw [Option.bind_some, ez, show zp_ni P - zp_ni Q + 1 = zp_ni P - zp_ni (zp_rm Q m) by omega]
        exact k (m, N2, zp_rm Q m) ⟨by show m ≤ 40; omega, zt_E_tr g1 f2, h2, by show min m (zp_ni P) ≤ zp_ni (zp_rm Q m); omega, by show zp_ni (zp_rm Q m) ≤ _; omega, by show zp_rd _ (min m (zp_ni P)) (zp_rm Q m) = _; rw [hmin]; exact g5'⟩ (by show m < m + 1; omega)
    · rw [decide_eq_false cm, Bool.false_and, if_pos (by decide)]
      show zh_H ((some (nI m + (-1 : Int32))).bind fun x7 => lf_M_removesDead_35 52 W fu (nI (zp_ni P - zp_ni Q)) x7 N) _
      rw [Option.bind_some, ez]
      have h1 : min (m + 1) (zp_ni P) = min m (zp_ni P) := by omega
      rw [h1] at g3 g5
      exact k (m, N, Q) ⟨by show m ≤ 40; omega, g1, g2, g3, g4, g5⟩ (by show m < m + 1; omega)
end ZYB6
