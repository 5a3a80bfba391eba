/-! ===== one step of the law, both sides ===== -/
theorem zl_keepM {M M' : mm_T} {A : Nat → Prop} {k u : Nat} {s : zy_T} (h : zy_M M s) (f : zy_Y M M' A k u) (nA : ∀ a, 52 ≤ a → a ≤ 62 → ¬ A a) : zy_M M' s := by
  have h63 := h.1
  have e : ∀ a, 52 ≤ a → a ≤ 62 → ∀ j, mm_R M' a j = mm_R M a j ∧ mm_I M' a j = mm_I M a j := fun a h1 h2 j => ⟨(f.2.2.2.2.2 a (by omega) (nA a h1 h2) j).1, (f.2.2.2.2.2 a (by omega) (nA a h1 h2) j).2.1⟩
  have eK : ∀ a, a ≤ 62 → mm_k M' a = mm_k M a := fun a ha => zy_Yk f (by omega)
  refine h.keep (by have := f.1; omega) ?_ (fun k _ => (e 52 (by omega) (by omega) k).2) (fun k => (e 53 (by omega) (by omega) k).2) (fun k => (e 54 (by omega) (by omega) k).2) (fun k => (e 60 (by omega) (by omega) k).2) (fun k => (e 62 (by omega) (by omega) k).2)
  have hR := h.2.1.1
  unfold zt_R at hR ⊢
  simp only [eK 52 (by omega), eK 53 (by omega), eK 54 (by omega), eK 55 (by omega), eK 56 (by omega), eK 57 (by omega), eK 58 (by omega), eK 59 (by omega), eK 60 (by omega), eK 61 (by omega), eK 62 (by omega), fun j => (e 52 (by omega) (by omega) j).1]
  exact hR
/-- both sides stand at s, and out = cell 63 -/
def zl_I (N : mm_T) (s : zy_T) : Prop := zy_C N s ∧ zy_M N s ∧ mm_k N 63 = (21, 1)
def zl_N (X : Option (Int32 × mm_T)) (jj : mm_T → Option (Int32 × mm_T)) (N : mm_T) : Prop := ∃ N' s', X = jj N' ∧ zl_I N' s' ∧ mm_n N' ≤ mm_n N + 200 ∧ mm_c N' ≤ mm_c N + 200 ∧ mm_u N' ≤ mm_u N + 4000
theorem zl_thr {M : mm_T} {s : zy_T} (h : zy_M M s) : ff_M_thrown 52 M = some (mm_I M 52 4) := by
  have k : (mm_k M 52).1 = 11 := by rw [h.2.1.1.1]
  unfold ff_M_thrown gd_G gf_I
  rw [if_pos k, if_pos k]
  rfl
theorem zl_A63 {a : Nat} (h1 : 52 ≤ a) (h2 : a ≤ 62) : ¬ (zy_A a ∨ a = 63) := by unfold zy_A; omega
theorem zl_ref {M1 : mm_T} {f : (Nat × Int32) × zy_T} {X : Option (Int32 × mm_T)} (c : zy_C M1 f.2) (hk : mm_k M1 63 = (21, 1)) (hO : zy_Om X M1 f) : ∃ v M2, X = some (v, M2) ∧ zl_I M2 f.2 ∧ ff_M_thrown 52 M2 = some (nI f.1.1) ∧ (f.1.1 = 0 → v = f.1.2) ∧ mm_J M2 63 0 = mm_J M1 63 0 ∧ mm_n M2 ≤ mm_n M1 + 100 ∧ mm_c M2 ≤ mm_c M1 + 100 ∧ mm_u M2 ≤ mm_u M1 + 2000 := by
  obtain ⟨v, M2, e, x, m, h4, hv⟩ := hO
  have h63 := c.1.1
  refine ⟨v, M2, e, ⟨c.keepR x (fun a _ z => by unfold zy_Ar at z; omega), m, (zu_k x h63).trans hk⟩, by rw [zl_thr m, h4], hv, ?_, x.2.1, x.2.2.1, x.2.2.2.1⟩
  exact (x.2.2.2.2.2 63 h63 (by unfold zy_Ar; omega) 0).2
theorem zl_refV {M1 : mm_T} {s' : zy_T} {k : Nat} {X : Option mm_T} (c : zy_C M1 s') (hk : mm_k M1 63 = (21, 1)) (hO : zy_Ov X M1 k s') : ∃ M2, X = some M2 ∧ zl_I M2 s' ∧ ff_M_thrown 52 M2 = some (nI k) ∧ mm_n M2 ≤ mm_n M1 + 100 ∧ mm_c M2 ≤ mm_c M1 + 100 ∧ mm_u M2 ≤ mm_u M1 + 2000 := by
  obtain ⟨M2, e, x, m, h4⟩ := hO
  have h63 := c.1.1
  exact ⟨M2, e, ⟨c.keepR x (fun a _ z => by unfold zy_Ar at z; omega), m, (zu_k x h63).trans hk⟩, by rw [zl_thr m, h4], x.2.1, x.2.2.1, x.2.2.2.1⟩
theorem zl_same (x : Int64) : lg_cmp x x = 0 := by simp [lg_cmp]
theorem zl_n0 {c : Nat} (h : c ≤ 3) (h0 : c ≠ 0) : ¬ nI c = 0 := by
  rcases (show c = 1 ∨ c = 2 ∨ c = 3 by omega) with z | z | z <;> rw [z] <;> decide
theorem zl_bd {α β ρ : Type} (a : α) (b : β) (k : α → β → Option ρ) : bd_2 (some (a, b)) k = k a b := rfl
section ZLST
variable {N : mm_T} {s s' : zy_T} {f : (Nat × Int32) × zy_T} {ZX : Option (Int32 × mm_T)} {MX : mm_T → Option (Int32 × mm_T)} {jj : mm_T → Option (Int32 × mm_T)}
/-- an int that the class may refuse -/
theorem zl_tI (hI : zl_I N s) (hZ : zl_Z ZX N f) (hM : ∀ M1, zy_M M1 s → mm_n M1 ≤ mm_n N + 100 → zy_Om (MX M1) M1 f) : zl_N (bd_2 ZX fun x2 M1 => bd_2 (MX M1) fun x4 M2 => (ff_M_thrown 52 M2).bind fun x5 => if x5 = x2 then (jp_J (α := Option (Int32 × mm_T)) (jj M2) fun j345 => if x2 = 0 then ((ar_J M2 63 (0 : Int32)).bind fun x6 => if (lg_cmp x6 ((x4).toInt64)) = 0 then (j345) else (some ((0 : Int32), M2))) else (j345)) else (some ((0 : Int32), M2))) jj N := by
  obtain ⟨M1, e1, y, c1, h3, v1⟩ := hZ
  have m1 : zy_M M1 s := zl_keepM hI.2.1 y (fun a p q => zl_A63 p q)
  have k1 : mm_k M1 63 = (21, 1) := (zy_Yk y hI.1.1.1).trans hI.2.2
  obtain ⟨v, M2, e2, i2, t2, w2, j2, g1, g2, g3⟩ := zl_ref c1 k1 (hM M1 m1 y.2.1)
  obtain ⟨-, y1, y2, y3, -⟩ := y
  refine ⟨M2, f.2, ?_, i2, by omega, by omega, by omega⟩
  rw [e1, zl_bd, e2, zl_bd, t2, Option.bind_some, if_pos rfl]
  show (if nI f.1.1 = 0 then _ else _) = _
  by_cases c0 : f.1.1 = 0
  · have q : ar_J M2 63 (0 : Int32) = some (f.1.2.toInt64) := by
      unfold ar_J
      rw [i2.2.2, if_pos (by decide)]
      show some (mm_J M2 63 0) = _
      rw [j2, v1 c0]
    rw [if_pos (by rw [c0]; rfl), q, Option.bind_some, w2 c0, if_pos (zl_same _)]
  · rw [if_neg (zl_n0 h3 c0)]
/-- a truth value that the class may refuse -/
theorem zl_tB (hI : zl_I N s) (hZ : zl_Z ZX N f ∧ (f.1.1 = 0 → f.1.2 = 0 ∨ f.1.2 = 1)) (hM : ∀ M1, zy_M M1 s → mm_n M1 ≤ mm_n N + 100 → zy_Om (MX M1) M1 f) : zl_N (bd_2 ZX fun x2 M1 => bd_2 (MX M1) fun x4 M2 => (ff_M_thrown 52 M2).bind fun x5 => if x5 = x2 then (jp_J (α := Option (Int32 × mm_T)) (jj M2) fun j345 => if x2 = 0 then ((ar_J M2 63 (0 : Int32)).bind fun x6 => jp_J (α := Int64 → Option (Int32 × mm_T)) (fun (x7 : Int64) => if (lg_cmp x6 x7) = 0 then (j345) else (some ((0 : Int32), M2))) fun j815 => if x4 = 0 then (j815 (0 : Int64)) else (j815 (1 : Int64))) else (j345)) else (some ((0 : Int32), M2))) jj N := by
  obtain ⟨⟨M1, e1, y, c1, h3, v1⟩, hb⟩ := hZ
  have m1 : zy_M M1 s := zl_keepM hI.2.1 y (fun a p q => zl_A63 p q)
  have k1 : mm_k M1 63 = (21, 1) := (zy_Yk y hI.1.1.1).trans hI.2.2
  obtain ⟨v, M2, e2, i2, t2, w2, j2, g1, g2, g3⟩ := zl_ref c1 k1 (hM M1 m1 y.2.1)
  obtain ⟨-, y1, y2, y3, -⟩ := y
  refine ⟨M2, f.2, ?_, i2, by omega, by omega, by omega⟩
  rw [e1, zl_bd, e2, zl_bd, t2, Option.bind_some, if_pos rfl]
  show (if nI f.1.1 = 0 then _ else _) = _
  by_cases c0 : f.1.1 = 0
  · have q : ar_J M2 63 (0 : Int32) = some (f.1.2.toInt64) := by
      unfold ar_J
      rw [i2.2.2, if_pos (by decide)]
      show some (mm_J M2 63 0) = _
      rw [j2, v1 c0]
    rw [if_pos (by rw [c0]; rfl), q, Option.bind_some]
    show (if v = 0 then (if lg_cmp (f.1.2.toInt64) 0 = 0 then _ else _) else (if lg_cmp (f.1.2.toInt64) 1 = 0 then _ else _)) = _
    rw [w2 c0]
    rcases hb c0 with z | z
    · rw [if_pos z, z, if_pos (by decide)]
    · rw [if_neg (by rw [z]; decide), z, if_pos (by decide)]
  · rw [if_neg (zl_n0 h3 c0)]
/-- nothing comes back but the refusal -/
theorem zl_tV {k : Nat} {VX : mm_T → Option mm_T} (hI : zl_I N s) (hZ : ∃ M1, ZX = some (nI k, M1) ∧ zy_Y N M1 zy_A 100 2000 ∧ zy_C M1 s') (hM : ∀ M1, zy_M M1 s → mm_n M1 ≤ mm_n N + 100 → zy_Ov (VX M1) M1 k s') : zl_N (bd_2 ZX fun x2 M1 => (VX M1).bind fun M2 => (ff_M_thrown 52 M2).bind fun x4 => if x4 = x2 then (jj M2) else (some ((0 : Int32), M2))) jj N := by
  obtain ⟨M1, e1, y, c1⟩ := hZ
  have m1 : zy_M M1 s := hI.2.1.keepY y
  have k1 : mm_k M1 63 = (21, 1) := (zy_Yk y hI.1.1.1).trans hI.2.2
  obtain ⟨M2, e2, i2, t2, g1, g2, g3⟩ := zl_refV c1 k1 (hM M1 m1 y.2.1)
  obtain ⟨-, y1, y2, y3, -⟩ := y
  refine ⟨M2, s', ?_, i2, by omega, by omega, by omega⟩
  rw [e1, zl_bd, e2, Option.bind_some, t2, Option.bind_some, if_pos rfl]
/-- an int of the class that it never refuses -/
theorem zl_tW {w : Int32} (hI : zl_I N s) (hD : ∃ M1, ZX = some (w, M1) ∧ zy_Y N M1 zy_A 100 2000 ∧ zy_C M1 s') (hM : ∀ M1, zy_M M1 s → mm_n M1 ≤ mm_n N + 100 → zy_Om (MX M1) M1 ((0, w), s')) : zl_N (bd_2 ZX fun x1 M1 => bd_2 (MX M1) fun x2 M2 => if x1 = x2 then (jj M2) else (some ((0 : Int32), M2))) jj N := by
  obtain ⟨M1, e1, y, c1⟩ := hD
  have m1 : zy_M M1 s := hI.2.1.keepY y
  have k1 : mm_k M1 63 = (21, 1) := (zy_Yk y hI.1.1.1).trans hI.2.2
  obtain ⟨v, M2, e2, i2, t2, w2, j2, g1, g2, g3⟩ := zl_ref (f := ((0, w), s')) c1 k1 (hM M1 m1 y.2.1)
  obtain ⟨-, y1, y2, y3, -⟩ := y
  refine ⟨M2, s', ?_, i2, by omega, by omega, by omega⟩
  rw [e1, zl_bd, e2, zl_bd, if_pos (w2 rfl).symm]
theorem zl_tP {w : Int32} {DX : Option Int32} (hI : zl_I N s) (hD : DX = some w) (hM : zy_Om ZX N ((0, w), s)) : zl_N (DX.bind fun x1 => bd_2 ZX fun x2 M1 => if x1 = x2 then (jj M1) else (some ((0 : Int32), M1))) jj N := by
  obtain ⟨v, M2, e2, i2, t2, w2, j2, g1, g2, g3⟩ := zl_ref (f := ((0, w), s)) hI.1 hI.2.2 hM
  refine ⟨M2, s, ?_, i2, by omega, by omega, by omega⟩
  rw [hD, Option.bind_some, e2, zl_bd, if_pos (w2 rfl).symm]
theorem zl_ofI {M : mm_T} {w : Int32} {X : Option (Int32 × mm_T)} (h : zy_C M s) (hO : zc_I X M (zy_P s) w) : ∃ M', X = some (w, M') ∧ zy_Y M M' zy_A 100 2000 ∧ zy_C M' s := by
  obtain ⟨M', e, f, q⟩ := hO
  exact ⟨M', e, zy_Ywk (zy_YX (zu_F f)) (by omega) (by omega) (fun a _ z => by unfold zc_A at z; unfold zy_A; omega), h.quest (zu_F f) q⟩
/-- doubles -/
theorem zl_fl {M M' : mm_T} (h : zy_M M s) (f : zf_F (mm_sI M 52 4 0) M' zt_A) : zf_X M M' zy_Ar 100 2000 ∧ zy_M M' s := by
  have o : zt_O (some ((0 : Int32), M')) M (0, 0) := ⟨0, M', rfl, zu_wk (zu_F f) (by omega) (by omega) (fun a z => z), fun _ => rfl⟩
  obtain ⟨v, M2, e, x, m, -⟩ := zy_ofOm h o
  have : M' = M2 := congrArg Prod.snd (Option.some.inj e)
  subst this
  exact ⟨x, m⟩
theorem zl_share (hI : zl_I N s) : zl_N (bd_2 (ff_D_deadShare 1 N) fun x1 M1 => (do_f2d x1).bind fun x2 => bd_2 (ff_M_deadShare 52 M1) fun x3 M2 => (do_f2d x3).bind fun x4 => jp_J (α := Option (Int32 × mm_T)) (jj M2) fun j2562 => if (Op.cmpValue (FP.dcmp x2 x4) .l) = 0 then (j2562) else (if (Op.cmpValue (FP.dcmp x2 x2) .l) = 0 then (some ((0 : Int32), M2)) else (if (Op.cmpValue (FP.dcmp x4 x4) .l) = 0 then (some ((0 : Int32), M2)) else (j2562)))) jj N := by
  obtain ⟨M1, e1, f1, q1⟩ := zc_deadShare hI.1.2
  have y : zy_Y N M1 zy_A 0 0 := zy_Ywk (zy_YX (zu_F f1)) (by omega) (by omega) (fun a _ z => by unfold zc_A at z; unfold zy_A; omega)
  have c1 : zy_C M1 s := hI.1.quest (zu_F f1) q1
  have m1 : zy_M M1 s := hI.2.1.keepY y
  have k1 : mm_k M1 63 = (21, 1) := (zy_Yk y hI.1.1.1).trans hI.2.2
  obtain ⟨M2, e2, f2⟩ := zt_deadShare m1.2.1
  obtain ⟨x2, m2⟩ := zl_fl m1 f2
  have h63 := c1.1.1
  obtain ⟨-, y1, y2, y3, -⟩ := y
  have z1 := x2.2.1
  have z2 := x2.2.2.1
  have z3 := x2.2.2.2.1
  refine ⟨M2, s, ?_, ⟨c1.keepR x2 (fun a _ z => by unfold zy_Ar at z; omega), m2, (zu_k x2 h63).trans k1⟩, by omega, by omega, by omega⟩
  have hd := (zv_f2d hI.2.1.2.1.2.2.2.2).1
  rw [e1, zl_bd, hd, Option.bind_some, e2, zl_bd, hd, Option.bind_some]
  show (if _ then jj M2 else _) = _
  by_cases c0 : Op.cmpValue (FP.dcmp (FP.f2d (zv_deadShare (zy_P s))) (FP.f2d (zv_deadShare (zy_P s)))) .l = 0
  · rw [if_pos c0]
  · rw [if_neg c0, if_neg c0, if_neg c0]
theorem zl_mean (hI : zl_I N s) : zl_N (bd_2 (ff_D_meanLive 1 N) fun x1 M1 => bd_2 (ff_M_meanLive 52 M1) fun x2 M2 => jp_J (α := Option (Int32 × mm_T)) (jj M2) fun j2603 => if (Op.cmpValue (FP.dcmp x1 x2) .l) = 0 then (j2603) else (if (Op.cmpValue (FP.dcmp x1 x1) .l) = 0 then (some ((0 : Int32), M2)) else (if (Op.cmpValue (FP.dcmp x2 x2) .l) = 0 then (some ((0 : Int32), M2)) else (j2603)))) jj N := by
  obtain ⟨M1, e1, f1, q1⟩ := zc_meanLive hI.1.2
  have y : zy_Y N M1 zy_A 0 0 := zy_Ywk (zy_YX (zu_F f1)) (by omega) (by omega) (fun a _ z => by unfold zc_A at z; unfold zy_A; omega)
  have c1 : zy_C M1 s := hI.1.quest (zu_F f1) q1
  have m1 : zy_M M1 s := hI.2.1.keepY y
  have k1 : mm_k M1 63 = (21, 1) := (zy_Yk y hI.1.1.1).trans hI.2.2
  obtain ⟨M2, e2, f2⟩ := zt_meanLive m1.2.1
  obtain ⟨x2, m2⟩ := zl_fl m1 f2
  have h63 := c1.1.1
  obtain ⟨-, y1, y2, y3, -⟩ := y
  have z1 := x2.2.1
  have z2 := x2.2.2.1
  have z3 := x2.2.2.2.1
  refine ⟨M2, s, ?_, ⟨c1.keepR x2 (fun a _ z => by unfold zy_Ar at z; omega), m2, (zu_k x2 h63).trans k1⟩, by omega, by omega, by omega⟩
  rw [e1, zl_bd, e2, zl_bd]
  show (if _ then jj M2 else _) = _
  by_cases c0 : Op.cmpValue (FP.dcmp (zv_meanLive (zy_P s)) (zv_meanLive (zy_P s))) .l = 0
  · rw [if_pos c0]
  · rw [if_neg c0, if_neg c0, if_neg c0]
end ZLST
theorem zl_csV (Es : List String) {X : Option ((Unit ⊕ String) × mm_T)} {M : mm_T} {s' : zy_T} {r : Unit ⊕ String} {kx : String → mm_T → Option (Int32 × mm_T)} {k : Nat} (h : zy_O X M r s') (hr : (r = .inl () ∧ k = 0) ∨ ∃ E, r = .inr E ∧ ∀ N, kx E N = some (nI k, N)) : ∃ M1, cs_X X (fun x1 M1 => some ((0 : Int32), M1)) kx = some (nI k, M1) ∧ zy_Y M M1 zy_A 100 2000 ∧ zy_C M1 s' := by
  obtain ⟨M', e, y, c⟩ := h
  refine ⟨M', ?_, y, c⟩
  unfold cs_X
  rw [e, Option.bind_some]
  rcases hr with ⟨z, z2⟩ | ⟨E, z, z2⟩
  · rw [z, z2]; rfl
  · rw [z]; exact z2 M'
/-- the script's ints at a step -/
def zl_rd (n : Nat) (xs : Nat → Int32) (i : Int32) (m : Nat) : Prop := ∀ k, k ≤ 6 → sl_I n xs (i + nI k) = some (xs (m + k))
