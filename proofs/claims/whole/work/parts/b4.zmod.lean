/-! ===== the reference's state; its actions ===== -/
def zy_Ar (a : Nat) : Prop := 52 ≤ a ∧ a ≤ 62
def zt_N (M : mm_T) (o : Option zp_T × Option zp_T) : Prop := mm_I M 54 0 = zb_B o.1.isSome ∧ mm_I M 54 1 = zb_B o.2.isSome ∧ (∀ Q, o.1 = some Q → zt_H M 7 Q ∧ zp_V Q) ∧ ∀ Q, o.2 = some Q → zt_H M 8 Q ∧ zp_V Q
def zt_tx (M : mm_T) (tx : (Nat → Nat) × Nat) : Prop := mm_I M 52 15 = nI tx.2 ∧ tx.2 ≤ 700 ∧ ∀ i, i < tx.2 → mm_I M 60 i = nI (tx.1 i) ∧ tx.1 i < 256
def zt_er (M : mm_T) (e : Nat × Int32) : Prop := mm_I M 52 16 = nI e.1 ∧ mm_I M 52 17 = e.2
def zt_ou (M : mm_T) (ow : (Nat → Nat) × Nat) : Prop := mm_I M 52 24 = nI ow.2 ∧ ow.2 ≤ 700 ∧ ∀ i, i < ow.2 → mm_I M 62 i = nI (ow.1 i)
def zy_M (M : mm_T) (s : zy_T) : Prop := 63 ≤ mm_n M ∧ zt_S M 0 (zy_P s) ∧ zt_K M (zy_u s).1 (zy_u s).2 ∧ zt_N M (zy_n s) ∧ zt_tx M (zy_t s) ∧ zt_er M (zy_c s) ∧ zt_ou M (zy_v s)
/-- what the reference's state rests on -/
theorem zy_M.keep {M M' : mm_T} {s : zy_T} (h : zy_M M s) (hn : 63 ≤ mm_n M') (hR : zt_R M') (h52 : ∀ k, k = 2 ∨ k = 3 ∨ 14 ≤ k → mm_I M' 52 k = mm_I M 52 k) (h53 : ∀ k, mm_I M' 53 k = mm_I M 53 k) (h54 : ∀ k, mm_I M' 54 k = mm_I M 54 k) (h60 : ∀ k, mm_I M' 60 k = mm_I M 60 k) (h62 : ∀ k, mm_I M' 62 k = mm_I M 62 k) : zy_M M' s := by
  obtain ⟨h63, hS, hK, hN, hx, he, ho⟩ := h
  refine ⟨hn, ⟨hR, (h52 2 (by omega)).trans hS.2.1, hS.2.2.1, hS.2.2.2.1.keep h53, hS.2.2.2.2⟩, ⟨hK.1, (h52 3 (by omega)).trans hK.2.1, fun k hk => ⟨(hK.2.2 k hk).1.keep h53, (hK.2.2 k hk).2⟩⟩, ⟨(h54 0).trans hN.1, (h54 1).trans hN.2.1, fun Q e => ⟨(hN.2.2.1 Q e).1.keep h53, (hN.2.2.1 Q e).2⟩, fun Q e => ⟨(hN.2.2.2 Q e).1.keep h53, (hN.2.2.2 Q e).2⟩⟩, ⟨(h52 15 (by omega)).trans hx.1, hx.2.1, fun i hi => ⟨(h60 i).trans (hx.2.2 i hi).1, (hx.2.2 i hi).2⟩⟩, ⟨(h52 16 (by omega)).trans he.1, (h52 17 (by omega)).trans he.2⟩, (h52 24 (by omega)).trans ho.1, ho.2.1, fun i hi => (h62 i).trans (ho.2.2 i hi)⟩
/-- what the class does leaves the reference -/
theorem zy_M.keepY {M M' : mm_T} {k u : Nat} {s : zy_T} (h : zy_M M s) (f : zy_Y M M' zy_A k u) : zy_M M' s := by
  have h63 := h.1
  have nA : ∀ a, 52 ≤ a → a ≤ 62 → ¬ zy_A a := fun a h1 h2 z => by unfold zy_A at z; omega
  have e : ∀ a, 52 ≤ a → a ≤ 62 → ∀ j, mm_R M' a j = mm_R M a j ∧ mm_I M' a j = mm_I M a j := fun a h1 h2 j => ⟨(f.2.2.2.2.2 a (by omega) (nA a h1 h2) j).1, (f.2.2.2.2.2 a (by omega) (nA a h1 h2) j).2.1⟩
  have eK : ∀ a, a ≤ 62 → mm_k M' a = mm_k M a := fun a ha => zy_Yk f (by omega)
  refine h.keep (by have := f.1; omega) ?_ (fun k _ => (e 52 (by omega) (by omega) k).2) (fun k => (e 53 (by omega) (by omega) k).2) (fun k => (e 54 (by omega) (by omega) k).2) (fun k => (e 60 (by omega) (by omega) k).2) (fun k => (e 62 (by omega) (by omega) k).2)
  have hR := h.2.1.1
  unfold zt_R at hR ⊢
  simp only [eK 52 (by omega), eK 53 (by omega), eK 54 (by omega), eK 55 (by omega), eK 56 (by omega), eK 57 (by omega), eK 58 (by omega), eK 59 (by omega), eK 60 (by omega), eK 61 (by omega), eK 62 (by omega), fun j => (e 52 (by omega) (by omega) j).1]
  exact hR
/-- an answer of the reference and the state that it leaves -/
def zy_Om (X : Option (Int32 × mm_T)) (M : mm_T) (f : (Nat × Int32) × zy_T) : Prop := ∃ v M', X = some (v, M') ∧ zf_X M M' zy_Ar 100 2000 ∧ zy_M M' f.2 ∧ mm_I M' 52 4 = nI f.1.1 ∧ (f.1.1 = 0 → v = f.1.2)
theorem zt_R.keepX {M M' : mm_T} {A : Nat → Prop} {k u : Nat} (h : zt_R M) (h63 : 63 ≤ mm_n M) (f : zf_X M M' A k u) : zt_R M' := by
  have eK : ∀ a, a ≤ 62 → mm_k M' a = mm_k M a := fun a ha => zu_k f (by omega)
  have eR : ∀ j, mm_R M' 52 j = mm_R M 52 j := fun j => zu_R f (by omega) j
  unfold zt_R at h ⊢
  simp only [eK 52 (by omega), eK 53 (by omega), eK 54 (by omega), eK 55 (by omega), eK 56 (by omega), eK 57 (by omega), eK 58 (by omega), eK 59 (by omega), eK 60 (by omega), eK 61 (by omega), eK 62 (by omega), eR]
  exact h
theorem zy_M.quest {M M' : mm_T} {s : zy_T} {k u : Nat} (h : zy_M M s) (f : zf_X M M' zt_B k u) (h52 : ∀ k, (k < 10 ∧ k ≠ 4) ∨ 13 < k → mm_I M' 52 k = mm_I M 52 k) : zy_M M' s := by
  have h63 := h.1
  exact h.keep (by have := f.1; omega) (h.2.1.1.keepX h63 f) (fun k hk => h52 k (by omega)) (fun k => zu_i f (by omega) (by unfold zt_B; omega) k) (fun k => zu_i f (by omega) (by unfold zt_B; omega) k) (fun k => zu_i f (by omega) (by unfold zt_B; omega) k) (fun k => zu_i f (by omega) (by unfold zt_B; omega) k)
theorem zy_ofU {X : Option (Int32 × mm_T)} {M : mm_T} {s : zy_T} {p : Nat × Int32} (h : zy_M M s) (hU : zt_U X M p) : zy_Om X M (p, s) := by
  obtain ⟨v, M', e, f, h52, h4, hv⟩ := hU
  exact ⟨v, M', e, zu_wk f (by omega) (by omega) (fun a z => by unfold zt_B at z; unfold zy_Ar; omega), h.quest f h52, h4, hv⟩
theorem zy_ofOm {X : Option (Int32 × mm_T)} {M : mm_T} {s : zy_T} {p : Nat × Int32} (h : zy_M M s) (hO : zt_O X M p) : zy_Om X M (p, s) := zy_ofU h (zt_OU hO (by have := h.1; omega))
theorem zy_OmI {X : Option (Int32 × mm_T)} {M M1 : mm_T} {A : Nat → Prop} {f : (Nat × Int32) × zy_T} (g : zf_F M M1 A) (hA : ∀ a, A a → zy_Ar a) (h : zy_Om X M1 f) : zy_Om X M f := by
  obtain ⟨v, M', e, x, q⟩ := h
  exact ⟨v, M', e, zu_wk (zu_tr (zu_F (zf_mono g hA)) x) (by omega) (by omega) (fun a z => z), q⟩
theorem zy_M.thr {M : mm_T} {s : zy_T} (h : zy_M M s) (v : Int32) : zy_M (mm_sI M 52 4 v) s := by
  have f : zf_F M (mm_sI M 52 4 v) (fun a => a = 52) := zf_I1 _ _ _ _
  exact h.keep h.1 (h.2.1.1.keep f) (fun k hk => by rw [zm_II, if_neg (by omega)]) (fun k => by rw [zm_II, if_neg (by omega)]) (fun k => by rw [zm_II, if_neg (by omega)]) (fun k => by rw [zm_II, if_neg (by omega)]) (fun k => by rw [zm_II, if_neg (by omega)])
theorem zy_f4 (M : mm_T) (v : Int32) : zf_F M (mm_sI M 52 4 v) (fun a => a = 52) := zf_I1 _ _ _ _
theorem zy_thrM {M : mm_T} {s : zy_T} (h : zy_M M s) {v w : Int32} {k : Nat} (hk : k ≠ 0) : zy_Om (some (v, mm_sI M 52 4 (nI k))) M ((k, w), s) :=
  ⟨v, _, rfl, zu_wk (zu_F (zf_mono (zy_f4 M _) (fun a z => by unfold zy_Ar; omega))) (by omega) (by omega) (fun a z => z), h.thr _, by rw [zm_II, if_pos ⟨rfl, rfl⟩], fun z => absurd z hk⟩
section ZYB4
variable {M : mm_T} {s : zy_T}
theorem zy_opB (h : zy_M M s) {a : Int32} {K : mm_T → Option (Int32 × mm_T)} {f : (Nat × Int32) × zy_T} (hk : zi_A (zp_nb (zy_P s)) a → ∀ M1, zy_M M1 s → mm_I M1 52 4 = 0 → mm_n M1 = mm_n M → zy_Om (K M1) M1 f) : zy_Om (bd_2 (ff_M_isBlock 52 a M) fun x M1 => if x = 0 then some (0, M1) else K M1) M (if zi_A (zp_nb (zy_P s)) a then f else ((1, 0), s)) := by
  unfold bd_2
  rw [zt_isBlock h.2.1, Option.bind_some]
  by_cases c : zi_A (zp_nb (zy_P s)) a
  · rw [if_pos c, if_pos c, decide_eq_true c]
    show zy_Om (if (1 : Int32) = 0 then _ else _) M f
    rw [if_neg (by decide)]
    exact zy_OmI (zy_f4 M 0) (fun a z => by unfold zy_Ar; omega) (hk c _ (h.thr 0) (by rw [zm_II, if_pos ⟨rfl, rfl⟩]) rfl)
  · rw [if_neg c, if_neg c, decide_eq_false c]
    exact zy_thrM h (k := 1) (by omega)
theorem zy_opI (h : zy_M M s) {a : Int32} {K : mm_T → Option (Int32 × mm_T)} {f : (Nat × Int32) × zy_T} (hk : zi_A (zp_ni (zy_P s)) a → ∀ M1, zy_M M1 s → mm_I M1 52 4 = 0 → mm_n M1 = mm_n M → zy_Om (K M1) M1 f) : zy_Om (bd_2 (ff_M_isItem 52 a M) fun x M1 => if x = 0 then some (0, M1) else K M1) M (if zi_A (zp_ni (zy_P s)) a then f else ((1, 0), s)) := by
  unfold bd_2
  rw [zt_isItem h.2.1, Option.bind_some]
  by_cases c : zi_A (zp_ni (zy_P s)) a
  · rw [if_pos c, if_pos c, decide_eq_true c]
    show zy_Om (if (1 : Int32) = 0 then _ else _) M f
    rw [if_neg (by decide)]
    exact zy_OmI (zy_f4 M 0) (fun a z => by unfold zy_Ar; omega) (hk c _ (h.thr 0) (by rw [zm_II, if_pos ⟨rfl, rfl⟩]) rfl)
  · rw [if_neg c, if_neg c, decide_eq_false c]
    exact zy_thrM h (k := 1) (by omega)
theorem zy_opV (h : zy_M M s) {a : Int32} {k : Nat} (hk0 : k ≠ 0) {K : mm_T → Option (Int32 × mm_T)} {f : (Nat × Int32) × zy_T} (hk : zi_A 8 a → zy_Om (K M) M f) : zy_Om (bd_2 (ff_M_isVariable 52 a (nI k) M) fun x M1 => if x = 0 then some (0, M1) else K M1) M (if zi_A 8 a then f else ((k, 0), s)) := by
  unfold bd_2
  rw [zt_isVar h.2.1, Option.bind_some]
  by_cases c : zi_A 8 a
  · rw [if_pos c, if_pos c, decide_eq_true c]
    show zy_Om (if (1 : Int32) = 0 then _ else _) M f
    rw [if_neg (by decide)]
    exact hk c
  · rw [if_neg c, if_neg c, decide_eq_false c]
    exact zy_thrM h hk0
/-- behind the keeping -/
theorem zy_keepM (h : zy_M M s) (h4 : mm_I M 52 4 = 0) : ∃ M1, ff_M_keeps 52 M = some M1 ∧ zf_X M M1 zy_Ar 0 0 ∧ zy_M M1 (zy_kept s) ∧ mm_I M1 52 4 = 0 ∧ mm_n M1 = mm_n M := by
  obtain ⟨h63, hS, hK, hN, hx, he, ho⟩ := h
  obtain ⟨M1, e1, g1, k1⟩ := zt_keeps hS hK
  have i : ∀ a, a ≠ 52 → a ≠ 53 → ∀ j, mm_I M1 a j = mm_I M a j := fun a z1 z2 j => zf_i g1.1 (by omega) j
  refine ⟨M1, e1, zu_F (zf_mono g1.1 (fun a z => by unfold zy_Ar; omega)), ⟨by rw [g1.1.1]; exact h63, hS.keepG g1, k1, ⟨(i 54 (by omega) (by omega) 0).trans hN.1, (i 54 (by omega) (by omega) 1).trans hN.2.1, fun Q e => ⟨zt_H.slot (hN.2.2.1 Q e).1 (hN.2.2.1 Q e).2 (fun k hk => g1.2.2 _ (by omega)), (hN.2.2.1 Q e).2⟩, fun Q e => ⟨zt_H.slot (hN.2.2.2 Q e).1 (hN.2.2.2 Q e).2 (fun k hk => g1.2.2 _ (by omega)), (hN.2.2.2 Q e).2⟩⟩, ⟨(g1.2.1 15 (by omega)).trans hx.1, hx.2.1, fun j hj => ⟨(i 60 (by omega) (by omega) j).trans (hx.2.2 j hj).1, (hx.2.2 j hj).2⟩⟩, ⟨(g1.2.1 16 (by omega)).trans he.1, (g1.2.1 17 (by omega)).trans he.2⟩, (g1.2.1 24 (by omega)).trans ho.1, ho.2.1, fun j hj => (i 62 (by omega) (by omega) j).trans (ho.2.2 j hj)⟩, (g1.2.1 4 (by omega)).trans h4, g1.1.1⟩
/-- slot 0 was written over -/
theorem zy_editM {M2 : mm_T} (h : zy_M M s) {s' : zy_T} (hs : zy_u s' = zy_u s ∧ zy_n s' = zy_n s ∧ zy_t s' = zy_t s ∧ zy_c s' = zy_c s ∧ zy_v s' = zy_v s) (g : zt_E 0 M M2) (hS : zt_S M2 0 (zy_P s')) : zy_M M2 s' := by
  obtain ⟨h63, _, hK, hN, hx, he, ho⟩ := h
  obtain ⟨q1, q2, q3, q4, q5⟩ := hs
  have i : ∀ a, a ≠ 53 → ∀ j, mm_I M2 a j = mm_I M a j := fun a z1 j => zf_i g.1 (by omega) j
  unfold zy_M
  rw [q1, q2, q3, q4, q5]
  refine ⟨by rw [g.1.1]; exact h63, hS, ⟨hK.1, (i 52 (by omega) 3).trans hK.2.1, fun k hk => ⟨zt_H.slot (hK.2.2 k hk).1 (hK.2.2 k hk).2 (fun x hx => g.2 _ (by omega)), (hK.2.2 k hk).2⟩⟩, ⟨(i 54 (by omega) 0).trans hN.1, (i 54 (by omega) 1).trans hN.2.1, fun Q e => ⟨zt_H.slot (hN.2.2.1 Q e).1 (hN.2.2.1 Q e).2 (fun k hk => g.2 _ (by omega)), (hN.2.2.1 Q e).2⟩, fun Q e => ⟨zt_H.slot (hN.2.2.2 Q e).1 (hN.2.2.2 Q e).2 (fun k hk => g.2 _ (by omega)), (hN.2.2.2 Q e).2⟩⟩, ⟨(i 52 (by omega) 15).trans hx.1, hx.2.1, fun j hj => ⟨(i 60 (by omega) j).trans (hx.2.2 j hj).1, (hx.2.2 j hj).2⟩⟩, ⟨(i 52 (by omega) 16).trans he.1, (i 52 (by omega) 17).trans he.2⟩, (i 52 (by omega) 24).trans ho.1, ho.2.1, fun j hj => (i 62 (by omega) j).trans (ho.2.2 j hj)⟩
theorem zy_edX {o : Nat} {M1 M2 : mm_T} (g : zt_E o M1 M2) : zf_X M1 M2 zy_Ar 0 0 := zu_F (zf_mono g.1 (fun a z => by unfold zy_Ar; omega))
theorem zy_exitsM (h : zy_M M s) (h4 : mm_I M 52 4 = 0) {b w x f z : Nat} (hb : b < zp_nb (zy_P s)) (hq : zp_bok (zp_nb (zy_P s)) (w, x, f, z)) : zy_Om ((ff_M_keeps 52 M).bind fun M3 => (ff_M_exits 52 (nI b) (nI w) (nI x) (nI f) (nI z) M3).bind fun M4 => bd_2 (ff_M_reachedCount 52 M4) fun x3 M5 => some (x3, M5)) M ((0, nI (zp_rc (zp_setx (zy_P s) b (w, x, f, z)))), zy_ed s (zp_setx (zy_P s) b (w, x, f, z))) := by
  obtain ⟨M1, e1, x1, C1, t1, n1⟩ := zy_keepM h h4
  obtain ⟨M2, e2, g2, S2⟩ := zt_setx C1.2.1 hb hq
  have C2 : zy_M M2 (zy_ed s (zp_setx (zy_P s) b (w, x, f, z))) := zy_editM C1 ⟨rfl, rfl, rfl, rfl, rfl⟩ g2 S2
  obtain ⟨n, M3, e3, f3, en⟩ := zt_reachedCount C2.2.1
  rw [e1, Option.bind_some, e2, Option.bind_some]
  unfold bd_2
  rw [e3, Option.bind_some]
  have hB : zf_X M2 M3 zt_B 0 0 := zu_F (zf_mono f3 (fun a z => by unfold zt_A at z; unfold zt_B; omega))
  refine ⟨_, M3, rfl, zu_wk (zu_tr (zu_tr x1 (zy_edX g2)) (zu_F (zf_mono f3 (fun a z => by unfold zt_A at z; unfold zy_Ar; omega)))) (by omega) (by omega) (fun a z => z), C2.quest hB (fun k _ => zf_i f3 (by unfold zt_A; omega) k), ?_, fun _ => ?_⟩
  · show mm_I M3 52 4 = nI 0
    rw [zf_i f3 (by unfold zt_A; omega), zf_i g2.1 (by omega), t1]
    rfl
  · rw [en]; rfl
theorem zy_setGotoM (h : zy_M M s) (b y : Int32) : zy_Om (ff_M_setGoto 52 b y M) M (zv_setGoto s b y) := by
  unfold ff_M_setGoto zv_setGoto
  rw [zq_gd (zt_e52 h.2.1)]
  refine zy_opB h (fun c1 M1 h1 t1 n1 => zy_opB h1 (fun c2 M2 h2 t2 n2 => ?_))
  obtain ⟨hb, eb⟩ := zi_An c1
  obtain ⟨hy, ey⟩ := zi_An c2
  generalize zi_n b = b' at hb eb
  generalize zi_n y = y' at hy ey
  subst eb ey
  exact zy_exitsM (w := 1) (x := 0) (z := 0) h2 t2 hb (zp_bok_goto hy)
theorem zy_setBranchM (h : zy_M M s) (b v y z : Int32) : zy_Om (ff_M_setBranch 52 b v y z M) M (zv_setBranch s b v y z) := by
  unfold ff_M_setBranch zv_setBranch
  rw [zq_gd (zt_e52 h.2.1)]
  refine zy_opB h (fun c1 M1 h1 t1 n1 => zy_opB h1 (fun c2 M2 h2 t2 n2 => zy_opB h2 (fun c3 M3 h3 t3 n3 => zy_opV (k := 2) h3 (by omega) (fun c4 => ?_))))
  obtain ⟨hb, eb⟩ := zi_An c1
  obtain ⟨hy, ey⟩ := zi_An c2
  obtain ⟨hz, ez⟩ := zi_An c3
  obtain ⟨hv, ev⟩ := zi_An c4
  generalize zi_n b = b' at hb eb
  generalize zi_n y = y' at hy ey
  generalize zi_n z = z' at hz ez
  generalize zi_n v = v' at hv ev
  subst eb ey ez ev
  exact zy_exitsM (w := 2) h3 t3 hb (zp_bok_branch hv hy hz)
theorem zy_removeInstructionM (h : zy_M M s) (i : Int32) : zy_Om (ff_M_removeInstruction 52 i M) M (zv_removeInstruction s i) := by
  unfold ff_M_removeInstruction zv_removeInstruction
  rw [zq_gd (zt_e52 h.2.1)]
  refine zy_opI h (fun c1 M1 h1 t1 n1 => ?_)
  obtain ⟨hi, ei⟩ := zi_An c1
  generalize zi_n i = i' at hi ei
  subst ei
  obtain ⟨M2, e2, x2, C2, t2, n2⟩ := zy_keepM h1 t1
  obtain ⟨M3, e3, g3, S3⟩ := zt_removes C2.2.1 hi
  have C3 : zy_M M3 (zy_ed s (zp_rm (zy_P s) i')) := zy_editM C2 ⟨rfl, rfl, rfl, rfl, rfl⟩ g3 S3
  rw [e2, Option.bind_some, e3, Option.bind_some, zt_ni S3, Option.bind_some]
  refine ⟨_, M3, rfl, zu_wk (zu_tr x2 (zy_edX g3)) (by omega) (by omega) (fun a z => z), C3, ?_, fun _ => rfl⟩
  show mm_I M3 52 4 = nI 0
  rw [zf_i g3.1 (by omega), t2]
  rfl
/-- an instruction is put in -/
theorem zy_insertsM (h : zy_M M s) (h4 : mm_I M 52 4 = 0) {b p k t l c r : Nat} (hb : b < zp_nb (zy_P s)) (hp : p ≤ zp_st (zy_P s) (b + 1) - zp_st (zy_P s) b) (hq : zp_iok (k, t, l, c, r)) : zy_Om (ff_M_inserts 52 (nI b) (nI p) (nI k) (nI t) (nI l) (nI c) (nI r) M) M (if zp_ni (zy_P s) < 40 then ((0, nI (zp_st (zy_P s) b + p)), zy_ed s (zp_ins (zy_P s) b (zp_st (zy_P s) b + p) (k, t, l, c, r))) else ((3, 0), s)) := by
  have hV := h.2.1.2.2.2.2
  have hni := hV.2.2.1
  have hms := hV.2.2.2.2.1 b hb
  unfold ff_M_inserts
  rw [zq_gd (zt_e52 h.2.1), zt_ni h.2.1, Option.bind_some]
  by_cases c40 : zp_ni (zy_P s) < 40
  · rw [if_pos c40, if_neg (show ¬ nI (zp_ni (zy_P s)) = (40 : Int32) from fun z => by have := (nI_eq (b := 40) (by omega) (by omega)).mp z; omega)]
    obtain ⟨M2, e2, x2, C2, t2, n2⟩ := zy_keepM h h4
    have S2 : zt_S M2 0 (zy_P s) := C2.2.1
    rw [e2, Option.bind_some, zt_firstOf S2 (by omega), Option.bind_some, Option.bind_some, nI_add, zt_ni S2, Option.bind_some]
    obtain ⟨y, e, N, rfl, g3, S3⟩ := zt_putin S2 hb (show zp_st (zy_P s) b ≤ zp_st (zy_P s) b + p by omega) (show zp_st (zy_P s) b + p ≤ zp_st (zy_P s) (b + 1) by omega) c40 hq 0
    rw [e]
    have C3 : zy_M N (zy_ed s (zp_ins (zy_P s) b (zp_st (zy_P s) b + p) (k, t, l, c, r))) := zy_editM C2 ⟨rfl, rfl, rfl, rfl, rfl⟩ g3 S3
    refine ⟨_, N, rfl, zu_wk (zu_tr x2 (zy_edX g3)) (by omega) (by omega) (fun a z => z), C3, ?_, fun _ => rfl⟩
    show mm_I N 52 4 = nI 0
    rw [zf_i g3.1 (by omega), t2]
    rfl
  · rw [if_neg c40, if_pos (show nI (zp_ni (zy_P s)) = (40 : Int32) by rw [show zp_ni (zy_P s) = 40 by omega]; rfl), zp_I (zt_e52 h.2.1), Option.bind_some]
    exact zy_thrM h (k := 3) (by omega)
theorem zy_canIns (h : zy_M M s) {b : Nat} (hb : b < zp_nb (zy_P s)) (p t : Int32) : ff_M_canInsert 52 (nI b) p t M = some (if zi_A (zp_st (zy_P s) (b + 1) - zp_st (zy_P s) b + 1) p ∧ zi_A 8 t then ((1 : Int32), M) else ((0 : Int32), mm_sI M 52 4 2)) := by
  have hV := h.2.1.2.2.2.2
  have hni := hV.2.2.1
  have hse := zp_st_le hV (b := b + 1) (by omega)
  unfold ff_M_canInsert
  have e1 : nI (zp_st (zy_P s) (b + 1) - zp_st (zy_P s) b) = nI (zp_st (zy_P s) (b + 1) - zp_st (zy_P s) b + 1) - 1 := by
    rw [nI_pred]
  rw [zq_gd (zt_e52 h.2.1), zt_len h.2.1 hb, Option.bind_some, e1, zt_inA (by omega), Option.bind_some, zq_jp]
  by_cases c1 : zi_A (zp_st (zy_P s) (b + 1) - zp_st (zy_P s) b + 1) p
  · rw [decide_eq_true c1, if_neg (by decide), show (7 : Int32) = nI 8 - 1 by decide, zt_inA (by omega), Option.bind_some]
    by_cases c2 : zi_A 8 t
    · rw [decide_eq_true c2, if_neg (by decide), if_pos ⟨c1, c2⟩]
    · rw [decide_eq_false c2, if_pos (by decide), if_neg (fun z => c2 z.2), zp_I (zt_e52 h.2.1), Option.bind_some]
  · rw [decide_eq_false c1, if_pos (by decide), if_neg (fun z => c1 z.1), zp_I (zt_e52 h.2.1), Option.bind_some]
theorem zy_insertSetM (h : zy_M M s) (b p t c : Int32) : zy_Om (ff_M_insertSet 52 b p t c M) M (zv_insertSet s b p t c) := by
  unfold ff_M_insertSet zv_insertSet
  rw [zq_gd (zt_e52 h.2.1)]
  refine zy_opB h (fun c1 M1 h1 t1 n1 => ?_)
  obtain ⟨hb, eb⟩ := zi_An c1
  generalize zi_n b = b' at hb eb
  subst eb
  unfold bd_2
  rw [zy_canIns h1 hb, Option.bind_some]
  by_cases c2 : zi_A (zp_st (zy_P s) (b' + 1) - zp_st (zy_P s) b' + 1) p
  · rw [if_pos c2]
    by_cases c3 : zi_A 8 t
    · rw [if_pos ⟨c2, c3⟩, if_pos c3]
      show zy_Om (if (1 : Int32) = 0 then _ else _) M1 _
      rw [if_neg (by decide), zq_jp]
      by_cases c4 : zi_A 1000 c
      · obtain ⟨hc, ec⟩ := zi_An c4
        obtain ⟨ht, et⟩ := zi_An c3
        obtain ⟨hp, ep⟩ := zi_An c2
        rw [if_pos c4]
        generalize zi_n p = p' at hp ep
        generalize zi_n t = t' at ht et
        generalize zi_n c = c' at hc ec
        subst ep et ec
        rw [if_neg (nI_pos (by omega)), if_pos (show nI c' ≤ (999 : Int32) from nI_le (b := 999) (by omega) (by omega))]
        have := zy_insertsM (k := 0) (t := t') (l := c') (c := 0) (r := 0) h1 t1 hb (show p' ≤ _ by omega) (zp_iok_set ht hc)
        obtain ⟨v, M', e, q⟩ := this
        have e' : ff_M_inserts 52 (nI b') (nI p') 0 (nI t') (nI c') 0 0 M1 = some (v, M') := e
        show zy_Om ((ff_M_inserts 52 (nI b') (nI p') 0 (nI t') (nI c') 0 0 M1).bind _) M1 _
        rw [e', Option.bind_some]
        exact ⟨v, M', rfl, q⟩
      · rw [if_neg c4]
        by_cases c0 : c < 0
        · rw [if_pos c0]
          show zy_Om ((pf_I M1 52 11 4 2).bind _) M1 _
          rw [zp_I (zt_e52 h1.2.1), Option.bind_some]
          exact zy_thrM h1 (k := 2) (by omega)
        · rw [if_neg c0, if_neg (show ¬ c ≤ (999 : Int32) from fun z => c4 ⟨by rw [zi_neg] at c0; omega, by have := (zi_len (n := 999) (by omega) c0).mp z; omega⟩)]
          show zy_Om ((pf_I M1 52 11 4 2).bind _) M1 _
          rw [zp_I (zt_e52 h1.2.1), Option.bind_some]
          exact zy_thrM h1 (k := 2) (by omega)
    · rw [if_neg (fun z => c3 z.2), if_neg c3]
      exact zy_thrM h1 (k := 2) (by omega)
  · rw [if_neg (fun z => c2 z.1), if_neg c2]
    exact zy_thrM h1 (k := 2) (by omega)
theorem zy_insertCalcM (h : zy_M M s) (b p t l c r : Int32) : zy_Om (ff_M_insertCalc 52 b p t l c r M) M (zv_insertCalc s b p t l c r) := by
  unfold ff_M_insertCalc zv_insertCalc
  rw [zq_gd (zt_e52 h.2.1)]
  refine zy_opB h (fun c1 M1 h1 t1 n1 => ?_)
  obtain ⟨hb, eb⟩ := zi_An c1
  generalize zi_n b = b' at hb eb
  subst eb
  unfold bd_2
  rw [zy_canIns h1 hb, Option.bind_some]
  have bad : ∀ w, zy_Om ((pf_I M1 52 11 4 (2 : Int32)).bind fun M3 => some ((0 : Int32), M3)) M1 ((2, w), s) := fun w => by
    rw [zp_I (zt_e52 h1.2.1), Option.bind_some]
    exact zy_thrM h1 (k := 2) (by omega)
  by_cases c2 : zi_A (zp_st (zy_P s) (b' + 1) - zp_st (zy_P s) b' + 1) p
  · rw [if_pos c2]
    by_cases c3 : zi_A 8 t
    · rw [if_pos ⟨c2, c3⟩, if_pos c3]
      show zy_Om (if (1 : Int32) = 0 then _ else _) M1 _
      rw [if_neg (by decide)]
      show zy_Om ((ff_M_in l 0 7 M1).bind _) M1 _
      rw [show (7 : Int32) = nI 8 - 1 by decide, zt_inA (by omega), Option.bind_some, zq_jp]
      by_cases c4 : zi_A 8 l
      · rw [if_pos c4, decide_eq_true c4, if_neg (by decide), show (2 : Int32) = nI 3 - 1 by decide, zt_inA (by omega), Option.bind_some]
        by_cases c5 : zi_A 3 c
        · rw [if_pos c5, decide_eq_true c5, if_neg (by decide), zt_inA (by omega), Option.bind_some]
          by_cases c6 : zi_A 8 r
          · obtain ⟨hl, el⟩ := zi_An c4
            obtain ⟨hc, ec⟩ := zi_An c5
            obtain ⟨hr, er⟩ := zi_An c6
            obtain ⟨ht, et⟩ := zi_An c3
            obtain ⟨hp, ep⟩ := zi_An c2
            rw [if_pos c6, decide_eq_true c6, if_neg (by decide)]
            generalize zi_n p = p' at hp ep
            generalize zi_n t = t' at ht et
            generalize zi_n l = l' at hl el
            generalize zi_n c = c' at hc ec
            generalize zi_n r = r' at hr er
            subst ep et el ec er
            have := zy_insertsM (k := 2) (t := t') (l := l') (c := c') (r := r') h1 t1 hb (show p' ≤ _ by omega) (zp_iok_calc ht hl (by omega) hr)
            obtain ⟨v, M', e, q⟩ := this
            have e' : ff_M_inserts 52 (nI b') (nI p') (nI 3 - 1) (nI t') (nI l') (nI c') (nI r') M1 = some (v, M') := e
            rw [e', Option.bind_some]
            exact ⟨v, M', rfl, q⟩
          · rw [if_neg c6, decide_eq_false c6, if_pos (by decide)]
            exact bad 0
        · rw [if_neg c5, decide_eq_false c5, if_pos (by decide)]
          exact bad 0
      · rw [if_neg c4, decide_eq_false c4, if_pos (by decide)]
        exact bad 0
    · rw [if_neg (fun z => c3 z.2), if_neg c3]
      exact zy_thrM h1 (k := 2) (by omega)
  · rw [if_neg (fun z => c2 z.1), if_neg c2]
    exact zy_thrM h1 (k := 2) (by omega)
end ZYB4
