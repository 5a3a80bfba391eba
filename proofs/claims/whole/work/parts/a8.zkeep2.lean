/-! ===== the class keeps and takes back ===== -/
def zy_Bs (M : mm_T) (s : zy_T) : Prop := (zk_N M ∧ zy_p M ∧ zy_w M ∧ zo_P M 2) ∧ zy_x M (zy_t s) ∧ zy_e M (zy_c s) ∧ zy_o M (zy_v s)
theorem zy_Bs.keepY {M M' : mm_T} {A : Nat → Prop} {k u : Nat} {s : zy_T} (h : zy_Bs M s) (h63 : 63 ≤ mm_n M) (f : zy_Y M M' A k u) (hA : ∀ a, A a → a = 15 ∨ a = 16 ∨ a = 17 ∨ 41 ≤ a ∨ (18 ≤ a ∧ a ≤ 37)) : zy_Bs M' s := by
  obtain ⟨⟨n1, n2, n3, n4⟩, hx, he, ho⟩ := h
  have nA : ∀ a, a < 15 ∨ (38 ≤ a ∧ a ≤ 40) → ¬ A a := fun a ha z => by have := hA a z; omega
  have eR : ∀ a, a < 15 ∨ (38 ≤ a ∧ a ≤ 40) → ∀ j, mm_R M' a j = mm_R M a j := fun a ha j => (f.2.2.2.2.2 a (by omega) (nA a ha) j).1
  have eI : ∀ a, a < 15 ∨ (38 ≤ a ∧ a ≤ 40) → ∀ j, mm_I M' a j = mm_I M a j := fun a ha j => (f.2.2.2.2.2 a (by omega) (nA a ha) j).2.1
  have eK : ∀ a, a ≤ 63 → mm_k M' a = mm_k M a := fun a ha => zy_Yk f (by omega)
  refine ⟨⟨?_, ?_, ?_, ?_⟩, ?_, ?_, ?_⟩
  · unfold zk_N at n1 ⊢
    rw [eK 38 (by omega), eR 38 (by omega), eR 38 (by omega), eK 39 (by omega), eK 40 (by omega)]
    exact n1
  · unfold zy_p at n2 ⊢
    rw [eK 9 (by omega), eR 9 (by omega), eR 9 (by omega), eR 9 (by omega), eK 10 (by omega), eK 11 (by omega), eK 12 (by omega)]
    exact n2
  · unfold zy_w at n3 ⊢
    rw [eK 13 (by omega), eR 13 (by omega), eK 14 (by omega)]
    exact n3
  · unfold zo_P at n4 ⊢
    rw [eK 2 (by omega), eR 2 (by omega), eR 2 (by omega), eR 2 (by omega), eR 2 (by omega), eR 2 (by omega), eR 2 (by omega), eK (2 + 1) (by omega), eK (2 + 2) (by omega), eK (2 + 3) (by omega), eK (2 + 4) (by omega), eK (2 + 5) (by omega), eK (2 + 6) (by omega)]
    exact n4
  · exact ⟨(eI 9 (by omega) 1).trans hx.1, hx.2.1, fun i hi => ⟨(eI 10 (by omega) i).trans (hx.2.2 i hi).1, (hx.2.2 i hi).2⟩⟩
  · exact ⟨(eI 9 (by omega) 2).trans he.1, (eI 9 (by omega) 3).trans he.2⟩
  · exact ⟨(eI 13 (by omega) 1).trans ho.1, ho.2.1, fun i hi => (eI 14 (by omega) i).trans (ho.2.2 i hi)⟩
theorem zy_B.st {M : mm_T} {s : zy_T} (h : zy_B M s) : zy_Bs M s := ⟨h.2.1, h.2.2.2.2.2⟩
theorem zw_R {M : mm_T} {a n j r : Nat} (h : mm_k M a = (23, n)) (hj : j < n) (hn : n < 2 ^ 31) (hr : (mm_k M r).1 = 7) : aw_R M a (nI j) r = some (mm_sR M a j r) := by
  have e := nI_toInt (n := j) (by omega)
  unfold aw_R
  rw [h, e, if_pos ⟨rfl, ⟨by omega, by omega⟩, hr⟩, Int.toNat_natCast]
/-- a row of zy_D in its own array -/
theorem zy_r_u {M : mm_T} {y : Nat} (h : y < 6) : zy_r M y = mm_R M 16 y := if_pos h
theorem zy_r_s {M : mm_T} (j : Nat) : zy_r M (6 + j) = mm_R M 17 j := by
  unfold zy_r
  rw [if_neg (by omega), Nat.add_sub_cancel_left]
/-- an object whose cells weren't touched -/
theorem zy_S.off {M M' : mm_T} {j : Nat} {o : Option zp_T} (h : zy_S M j o) (hR : mm_R M' 17 j = mm_R M 17 j) (hI : mm_R M 17 j ≠ 0 → ∀ a, mm_R M 17 j ≤ a → a ≤ mm_R M 17 j + 6 → ∀ k, mm_I M' a k = mm_I M a k) : zy_S M' j o := by
  cases o with
  | none => exact hR.trans h
  | some P =>
    obtain ⟨b1, b2, b3⟩ := h
    refine ⟨by rw [hR]; exact b1, ?_, b3⟩
    rw [hR]
    exact b2.keep (fun a q1 q2 k => hI b1 a q1 q2 k)
def zy_kept (s : zy_T) : zy_T := (zy_P s, (zu_push (zy_P s) (zy_u s).1, if (zy_u s).2 = 6 then 6 else (zy_u s).2 + 1), zy_n s, zy_t s, zy_c s, zy_v s)
def zy_Ah (a : Nat) : Prop := a = 15 ∨ a = 16 ∨ 64 ≤ a
section ZYK
variable {M : mm_T} {s : zy_T}
theorem zy_keepRest {N : mm_T} {x n : Nat} {U : Nat → zp_T} (hQ : zc_Q N (zy_P s)) (h63 : 63 ≤ mm_n N) (hs : zy_Bs N s) (hD : zy_D N) (hx : x < 6) (h1 : mm_I N 15 1 = nI x) (hn : n ≤ 6) (h2 : mm_I N 15 2 = nI n) (hu : mm_R N 16 x ≠ 0) (hU : ∀ k, k < n → k ≠ 5 → mm_R N 16 ((x + 5 - k) % 6) ≠ 0 ∧ zo_H N (mm_R N 16 ((x + 5 - k) % 6)) (U k) ∧ zp_V (U k)) (hS : zy_S N 0 (zy_n s).1 ∧ zy_S N 1 (zy_n s).2) :
    zh_H ((ff_P_copyFrom (mm_R N 16 x) 45 N).bind fun M3 =>
  (gf_I M3 15 3 1).bind fun x6 =>
  jp_J (α := Int32 → Option (mm_T)) (fun (x7 : Int32) => (pf_I M3 15 3 1 x7).bind fun M4 =>
  (gf_I M4 15 3 2).bind fun x8 =>
  jp_J (α := Int32 → Option (mm_T)) (fun (x9 : Int32) => (pf_I M4 15 3 2 x9).bind fun M5 =>
  some M5) fun j107 =>
  if (6 : Int32) ≤ x8 then (j107 (6 : Int32)) else ((gf_I M4 15 3 2).bind fun x10 =>
  j107 ((x10 + (1 : Int32))))) fun j83 =>
  if (6 : Int32) ≤ (x6 + (1 : Int32)) then (j83 (0 : Int32)) else ((gf_I M3 15 3 1).bind fun x11 =>
  j83 ((x11 + (1 : Int32))))) (fun M' => zy_Y N M' zy_Ah 0 0 ∧ zy_C M' (zy_P s, (zu_push (zy_P s) U, if n = 6 then 6 else n + 1), zy_n s, zy_t s, zy_c s, zy_v s)) := by
  obtain ⟨hD1, hD2, hD3⟩ := id hD
  have hV := hQ.2.1.2.2
  obtain ⟨d1, d2, d3⟩ := hD2 x (by omega) (by rw [zy_r_u hx]; exact hu)
  rw [zy_r_u hx] at d1 d2 d3
  obtain ⟨M3, e3, f3, g3⟩ := zo_copy d3 hQ.2.1.1 (by omega) hQ.2.1.2.1 hV
  have hD' := hD.keepX h63 (zu_F f3)
  have e15 : (mm_k M3 15).1 = 3 := by rw [hD'.1.1]
  have i1 : mm_I M3 15 1 = nI x := by rw [zf_i f3 (by unfold zo_A; omega), h1]
  have i2 : mm_I M3 15 2 = nI n := by rw [zf_i f3 (by unfold zo_A; omega), h2]
  have fin : ∀ x' n', x' = (if x = 5 then 0 else x + 1) → n' = (if n = 6 then 6 else n + 1) → zy_Y N (mm_sI (mm_sI M3 15 1 (nI x')) 15 2 (nI n')) zy_Ah 0 0 ∧ zy_C (mm_sI (mm_sI M3 15 1 (nI x')) 15 2 (nI n')) (zy_P s, (zu_push (zy_P s) U, if n = 6 then 6 else n + 1), zy_n s, zy_t s, zy_c s, zy_v s) := by
    intro x' n' hx' hn'
    have f5 : zf_F M3 (mm_sI (mm_sI M3 15 1 (nI x')) 15 2 (nI n')) (fun a => a = 15) := zf_tr (zf_I1 _ _ _ _) (zf_I1 _ _ _ _)
    have c1 : mm_I (mm_sI (mm_sI M3 15 1 (nI x')) 15 2 (nI n')) 15 1 = nI x' := by rw [zm_II, if_neg (by omega), zm_II, if_pos ⟨rfl, rfl⟩]
    have c2 : mm_I (mm_sI (mm_sI M3 15 1 (nI x')) 15 2 (nI n')) 15 2 = nI n' := by rw [zm_II, if_pos ⟨rfl, rfl⟩]
    generalize mm_sI (mm_sI M3 15 1 (nI x')) 15 2 (nI n') = M5 at f5 c1 c2 ⊢
    have ff : zf_F N M5 (fun a => a = 15 ∨ zo_A (mm_R N 16 x) a) := zf_tr (zf_mono f3 (fun a q => Or.inr q)) (zf_mono f5 (fun a q => Or.inl q))
    have yy : zy_Y N M5 zy_Ah 0 0 := zy_Ywk (zy_YX (zu_F ff)) (Nat.le_refl _) (Nat.le_refl _) (fun a _ q => by unfold zo_A at q; unfold zy_Ah; omega)
    have off : ∀ y, y < 8 → y ≠ x → zy_r N y ≠ 0 → ∀ a, zy_r N y ≤ a → a ≤ zy_r N y + 6 → ∀ k, mm_I M5 a k = mm_I N a k := by
      intro y hy hyx hz a q1 q2 k
      have := hD3 y x hy (by omega) hyx hz (by rw [zy_r_u hx]; exact hu)
      have := (hD2 y hy hz).1
      rw [zy_r_u hx] at *
      exact zf_i ff (by unfold zo_A; omega) k
    refine ⟨yy, ⟨by rw [ff.1]; exact h63, (hs.keepY h63 yy (fun a q => by unfold zy_Ah at q; omega)).1, hD.keepX h63 (zu_F ff), ⟨x', by split at hx' <;> omega, c1, ?_, ?_, fun k hk => ?_⟩, ⟨?_, ?_⟩, (hs.keepY h63 yy (fun a q => by unfold zy_Ah at q; omega)).2⟩, ?_⟩
    · show (if n = 6 then 6 else n + 1) ≤ 6
      split <;> omega
    · rw [c2, hn']; rfl
    · have hk' : k < (if n = 6 then 6 else n + 1) := hk
      rw [zf_R ff]
      show _ ∧ zo_H M5 _ (if k = 0 then zy_P s else U (k - 1)) ∧ zp_V (if k = 0 then zy_P s else U (k - 1))
      by_cases k0 : k = 0
      · have ex : (x' + 5 - k) % 6 = x := by split at hx' <;> omega
        rw [if_pos k0, ex]
        exact ⟨hu, g3.keep (fun a q1 q2 j => zf_i f5 (by omega) j), hV⟩
      · have ex : (x' + 5 - k) % 6 = (x + 5 - (k - 1)) % 6 := by split at hx' <;> split at hk' <;> omega
        have k6 : k - 1 < n := by split at hk' <;> omega
        have k5 : k - 1 ≠ 5 := by split at hk' <;> omega
        obtain ⟨b1, b2, b3⟩ := hU (k - 1) k6 k5
        rw [if_neg k0, ex]
        have hy : (x + 5 - (k - 1)) % 6 < 6 := Nat.mod_lt _ (by omega)
        refine ⟨b1, b2.keep (fun a q1 q2 j => ?_), b3⟩
        refine off ((x + 5 - (k - 1)) % 6) (by omega) (by omega) (by rw [zy_r_u hy]; exact b1) a (by rw [zy_r_u hy]; exact q1) (by rw [zy_r_u hy]; exact q2) j
    · exact hS.1.off (zf_R ff _ _) (fun z a q1 q2 k => off 6 (by omega) (by omega) (by rw [show 6 = 6 + 0 from rfl, zy_r_s]; exact z) a (by rw [show 6 = 6 + 0 from rfl, zy_r_s]; exact q1) (by rw [show (6 : Nat) = 6 + 0 from rfl, zy_r_s]; exact q2) k)
    · exact hS.2.off (zf_R ff _ _) (fun z a q1 q2 k => off 7 (by omega) (by omega) (by rw [show 7 = 6 + 1 from rfl, zy_r_s]; exact z) a (by rw [show 7 = 6 + 1 from rfl, zy_r_s]; exact q1) (by rw [show (7 : Nat) = 6 + 1 from rfl, zy_r_s]; exact q2) k)
    · exact hQ.keepL (A := fun a => a = 15 ∨ zo_A (mm_R N 16 x) a) (zl_F ff) (fun a q => by unfold zo_A at q; omega)
  have k3 : ∀ v, (mm_k (mm_sI M3 15 1 v) 15).1 = 3 := fun v => e15
  rw [e3, Option.bind_some]
  simp only [zq_jp]
  rw [zg_I e15, Option.bind_some, i1, nI_1]
  have tail : ∀ x', x' = (if x = 5 then 0 else x + 1) → zh_H ((pf_I M3 15 3 1 (nI x')).bind fun M4 => (gf_I M4 15 3 2).bind fun x8 => if (6 : Int32) ≤ x8 then ((pf_I M4 15 3 2 (6 : Int32)).bind fun M5 => some M5) else ((gf_I M4 15 3 2).bind fun x10 => (pf_I M4 15 3 2 (x10 + (1 : Int32))).bind fun M5 => some M5)) (fun M' => zy_Y N M' zy_Ah 0 0 ∧ zy_C M' (zy_P s, (zu_push (zy_P s) U, if n = 6 then 6 else n + 1), zy_n s, zy_t s, zy_c s, zy_v s)) := by
    intro x' hx'
    have i2' : mm_I (mm_sI M3 15 1 (nI x')) 15 2 = nI n := by rw [zm_II, if_neg (by omega), i2]
    rw [zp_I e15, Option.bind_some, zg_I (k3 _), Option.bind_some, i2']
    by_cases c : n = 6
    · rw [if_pos (by rw [c]; decide), zp_I (k3 _), Option.bind_some]
      exact zh_some (fin x' 6 hx' (by rw [if_pos c]))
    · rw [if_neg (show ¬ (6 : Int32) ≤ nI n from nI_ge (b := 6) (by omega) (by omega)), Option.bind_some, nI_1, zp_I (k3 _), Option.bind_some]
      exact zh_some (fin x' (n + 1) hx' (by rw [if_neg c]))
  by_cases c : x = 5
  · rw [if_pos (by rw [c]; decide)]
    exact tail 0 (by rw [if_pos c])
  · rw [if_neg (show ¬ (6 : Int32) ≤ nI (x + 1) from nI_ge (b := 6) (by omega) (by omega)), Option.bind_some, nI_1]
    exact tail (x + 1) (by rw [if_neg c])
theorem zy_keep (h : zy_C M s) (hB : mm_n M + 8 < st_B) : ∃ M', ff_H_keep 15 45 M = some M' ∧ zy_Y M M' zy_Ah 7 109 ∧ zy_C M' (zy_kept s) := by
  obtain ⟨⟨h63, hb1, hD, ⟨x, hx, h1, hn, h2, hU⟩, hS, hb2⟩, hQ⟩ := h
  have hs : zy_Bs M s := ⟨hb1, hb2⟩
  have e15 : (mm_k M 15).1 = 3 := by rw [hD.1.1]
  suffices goal : zh_H (ff_H_keep 15 45 M) (fun M' => zy_Y M M' zy_Ah 7 109 ∧ zy_C M' (zy_kept s)) from goal
  unfold ff_H_keep
  rw [zq_gd e15, zg_I e15, Option.bind_some, h1, zq_jp, zq_jp, if_neg (nI_pos (by omega)), Option.bind_some, zg_R e15, Option.bind_some, hD.1.2.1, za_N hD.1.2.2.1 (by omega), Option.bind_some, if_pos (nI_lt (by omega) (by omega))]
  show zh_H ((gf_R M 15 3 0).bind _) _
  rw [zg_R e15, Option.bind_some, zg_I e15, Option.bind_some, h1, hD.1.2.1, za_R hD.1.2.2.1 (show x < 6 by omega) (by omega), Option.bind_some, zq_jp]
  by_cases c : mm_R M 16 x = 0
  · rw [if_pos c]
    obtain ⟨M7, e7, f7, n7, p7⟩ := zo_new (M := M) (by omega)
    rw [e7]
    have hD7 := hD.keepX h63 f7
    have e15' : (mm_k M7 15).1 = 3 := by rw [hD7.1.1]
    have i1 : mm_I M7 15 1 = nI x := by rw [zu_i f7 (by omega) (fun z => z), h1]
    have i2 : mm_I M7 15 2 = nI (zy_u s).2 := by rw [zu_i f7 (by omega) (fun z => z), h2]
    rw [zg_R e15', Option.bind_some, hD7.1.2.1, zg_I e15', Option.bind_some, i1, zw_R hD7.1.2.2.1 (show x < 6 by omega) (by omega) (by rw [p7.1]), Option.bind_some]
    have rr : ∀ y, mm_R (mm_sR M7 16 x (mm_n M + 1)) 16 y = if y = x then mm_n M + 1 else mm_R M 16 y := fun y => by
      rw [zm_RR]
      by_cases q : y = x
      · rw [if_pos ⟨rfl, q⟩, if_pos q]
      · rw [if_neg (fun z => q z.2), if_neg q, zu_R f7 (by omega)]
    have rs : ∀ j, mm_R (mm_sR M7 16 x (mm_n M + 1)) 17 j = mm_R M 17 j := fun j => by rw [zm_RR, if_neg (by omega), zu_R f7 (by omega)]
    have er : ∀ y, zy_r (mm_sR M7 16 x (mm_n M + 1)) y = if y = x then mm_n M + 1 else zy_r M y := by
      intro y
      unfold zy_r
      by_cases q6 : y < 6
      · rw [if_pos q6, if_pos q6, rr]
      · rw [if_neg q6, if_neg q6, rs, if_neg (by omega)]
    have yy : zy_Y M (mm_sR M7 16 x (mm_n M + 1)) zy_Ah 7 109 := zy_Ytr (l := 0) (w := 0) (zy_Ywk (zy_YX f7) (Nat.le_refl _) (Nat.le_refl _) (fun a _ z => z.elim)) (zy_Ywk (zy_YR _ _ _ _) (Nat.le_refl _) (Nat.le_refl _) (fun a _ z => by unfold zy_Ah; omega))
    have hux : mm_R (mm_sR M7 16 x (mm_n M + 1)) 16 x = mm_n M + 1 := by rw [rr, if_pos rfl]
    have QN : zc_Q (mm_sR M7 16 x (mm_n M + 1)) (zy_P s) := (hQ.keepL (zl_X f7 h63) (fun a z => z.elim)).setR (Or.inl rfl) _ _
    have DN : zy_D (mm_sR M7 16 x (mm_n M + 1)) := by
      refine ⟨⟨hD7.1.1, by rw [zm_RR, if_neg (by omega)]; exact hD7.1.2.1, hD7.1.2.2.1, hD7.1.2.2.2⟩, fun j hj => ?_, fun i j hi hj hij => ?_⟩
      · rw [er]
        by_cases q : j = x
        · rw [if_pos q]
          intro _
          refine ⟨by omega, by show mm_n M + 1 + 6 ≤ mm_n M7; omega, p7.setR (by omega) _ _⟩
        · rw [if_neg q]
          intro z
          obtain ⟨b1, b2, b3⟩ := hD.2.1 j hj z
          exact ⟨b1, by show _ ≤ mm_n M7; omega, (b3.keepX b2 f7).setR (by omega) _ _⟩
      · rw [er, er]
        by_cases q : i = x
        · rw [if_pos q, if_neg (by omega)]
          intro _ z
          have := (hD.2.1 j hj z).2.1
          omega
        · rw [if_neg q]
          by_cases q2 : j = x
          · rw [if_pos q2]
            intro z _
            have := (hD.2.1 i hi z).2.1
            omega
          · rw [if_neg q2]
            exact hD.2.2 i j hi hj hij
    have keepO : ∀ w, w ≠ 0 → (∃ y, y < 8 ∧ zy_r M y = w) → ∀ P, zo_H M w P → zo_H (mm_sR M7 16 x (mm_n M + 1)) w P := by
      rintro w hw ⟨y, hy, rfl⟩ P hP
      have := (hD.2.1 y hy hw).2.1
      exact hP.keep (fun a q1 q2 k => zu_i f7 (by omega) (fun z => z) k)
    have SN : ∀ j, j < 2 → ∀ o, zy_S M j o → zy_S (mm_sR M7 16 x (mm_n M + 1)) j o := by
      intro j hj o ho
      refine ho.off (rs j) (fun z a q1 q2 k => ?_)
      have := (hD.2.1 (6 + j) (by omega) (by rw [zy_r_s]; exact z)).2.1
      rw [zy_r_s] at this
      exact zu_i f7 (by omega) (fun z => z) k
    have := zy_keepRest (s := s) (N := mm_sR M7 16 x (mm_n M + 1)) (x := x) (n := (zy_u s).2) (U := (zy_u s).1) QN (by show 63 ≤ mm_n M7; omega) (hs.keepY h63 yy (fun a q => by unfold zy_Ah at q; omega)) DN hx i1 hn i2 (by rw [hux]; omega) (fun k hk k5 => by
      have ne : (x + 5 - k) % 6 ≠ x := by omega
      obtain ⟨b1, b2, b3⟩ := hU k hk
      rw [rr, if_neg ne]
      exact ⟨b1, keepO _ b1 ⟨(x + 5 - k) % 6, by have := Nat.mod_lt (x + 5 - k) (show 0 < 6 by omega); omega, zy_r_u (Nat.mod_lt _ (by omega))⟩ _ b2, b3⟩) ⟨SN 0 (by omega) _ hS.1, SN 1 (by omega) _ hS.2⟩
    rw [hux] at this
    exact zh_mono this (fun M' q => ⟨zy_Ytr (l := 0) (w := 0) yy q.1, q.2⟩)
  · rw [if_neg c]
    have := zy_keepRest (s := s) (N := M) (x := x) (n := (zy_u s).2) (U := (zy_u s).1) hQ h63 hs hD hx h1 hn h2 c (fun k hk _ => hU k hk) hS
    exact zh_mono this (fun M' q => ⟨zy_Ywk q.1 (by omega) (by omega) (fun a _ z => z), q.2⟩)
end ZYK
