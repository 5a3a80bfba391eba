/-! ===== the pure side: answers, loops, frames, numbers ===== -/
def zh_H {ρ : Type} (X : Option ρ) (Q : ρ → Prop) : Prop := ∃ y, X = some y ∧ Q y
theorem zh_some {ρ : Type} {y : ρ} {Q : ρ → Prop} (h : Q y) : zh_H (some y) Q := ⟨y, rfl, h⟩
theorem zh_bind {σ ρ : Type} {X : Option σ} {k : σ → Option ρ} {P : σ → Prop} {Q : ρ → Prop} (h : zh_H X P) (hk : ∀ y, P y → zh_H (k y) Q) : zh_H (X.bind k) Q := by
  obtain ⟨y, e, hy⟩ := h
  rw [e]
  exact hk y hy
theorem zh_bd2 {α β ρ : Type} {X : Option (α × β)} {k : α → β → Option ρ} {P : α × β → Prop} {Q : ρ → Prop} (h : zh_H X P) (hk : ∀ a b, P (a, b) → zh_H (k a b) Q) : zh_H (bd_2 X k) Q := by
  obtain ⟨⟨a, b⟩, e, hy⟩ := h
  unfold bd_2
  rw [e]
  exact hk a b hy
theorem zh_mono {ρ : Type} {X : Option ρ} {P Q : ρ → Prop} (h : zh_H X P) (hk : ∀ y, P y → Q y) : zh_H X Q := by
  obtain ⟨y, e, hy⟩ := h
  exact ⟨y, e, hk y hy⟩
theorem zh_eq {ρ : Type} {X X' : Option ρ} {Q : ρ → Prop} (e : X = X') (h : zh_H X' Q) : zh_H X Q := e ▸ h
theorem zh_is {ρ : Type} {X : Option ρ} {v : ρ} (h : zh_H X (fun y => y = v)) : X = some v := by
  obtain ⟨y, e, rfl⟩ := h
  exact e
theorem zh_of {ρ : Type} {X : Option ρ} {v : ρ} (h : X = some v) : zh_H X (fun y => y = v) := ⟨v, h, rfl⟩
theorem zh_at {σ ρ : Type} {X : Option σ} {v : σ} {k : σ → Option ρ} {Q : ρ → Prop} (h : X = some v) (hk : zh_H (k v) Q) : zh_H (X.bind k) Q := by
  rw [h]
  exact hk
theorem zh_at2 {α β ρ : Type} {X : Option (α × β)} {a : α} {b : β} {k : α → β → Option ρ} {Q : ρ → Prop} (h : X = some (a, b)) (hk : zh_H (k a b) Q) : zh_H (bd_2 X k) Q := by
  unfold bd_2
  rw [h]
  exact hk
theorem zh_gd {ρ : Type} {M : mm_T} {a c : Nat} {X : Option ρ} {Q : ρ → Prop} (h : (mm_k M a).1 = c) (hk : zh_H X Q) : zh_H (gd_G M a c X) Q := by
  unfold gd_G
  rw [if_pos h]
  exact hk
theorem zq_gd {ρ : Type} {M : mm_T} {a c : Nat} {X : Option ρ} (h : (mm_k M a).1 = c) : gd_G M a c X = X := if_pos h
theorem zh_jp {α ρ : Type} {Y : α} {B : α → Option ρ} {Q : ρ → Prop} (h : zh_H (B Y) Q) : zh_H (jp_J Y B) Q := h
theorem zq_jp {α ρ : Type} {Y : α} {B : α → Option ρ} : jp_J Y B = B Y := rfl
theorem zh_rq {V : Type} {Y : Option (Option String)} {M : mm_T} {k : Option ((V ⊕ String) × mm_T)} {Q : (V ⊕ String) × mm_T → Prop} (h : Y = some none) (hk : zh_H k Q) : zh_H (rq_X Y M k) Q := by
  unfold rq_X
  rw [h]
  exact hk
theorem zh_rqx {V : Type} {Y : Option (Option String)} {M : mm_T} {k : Option ((V ⊕ String) × mm_T)} {Q : (V ⊕ String) × mm_T → Prop} {E : String} (h : Y = some (some E)) (hk : Q (.inr E, mm_ex M)) : zh_H (rq_X Y M k) Q := by
  unfold rq_X
  rw [h]
  exact zh_some hk
theorem zh_cs {V ρ : Type} {Y : Option ((V ⊕ String) × mm_T)} {kf : V → mm_T → Option ρ} {kx : String → mm_T → Option ρ} {P : (V ⊕ String) × mm_T → Prop} {Q : ρ → Prop} (h : zh_H Y P) (hf : ∀ v M, P (.inl v, M) → zh_H (kf v M) Q) (hx : ∀ E M, P (.inr E, M) → zh_H (kx E M) Q) : zh_H (cs_X Y kf kx) Q := by
  obtain ⟨⟨y, M⟩, e, hy⟩ := h
  unfold cs_X
  rw [e]
  cases y with
  | inl v => exact hf v M hy
  | inr E => exact hx E M hy
theorem zh_if {ρ : Type} {c : Prop} [Decidable c] {A B : Option ρ} {Q : ρ → Prop} (h1 : c → zh_H A Q) (h2 : ¬ c → zh_H B Q) : zh_H (if c then A else B) Q := by
  split
  · exact h1 (by assumption)
  · exact h2 (by assumption)
theorem zh_t {ρ : Type} {c : Prop} [Decidable c] {A B : Option ρ} {Q : ρ → Prop} (h : c) (h1 : zh_H A Q) : zh_H (if c then A else B) Q := by
  rw [if_pos h]
  exact h1
theorem zh_f {ρ : Type} {c : Prop} [Decidable c] {A B : Option ρ} {Q : ρ → Prop} (h : ¬ c) (h1 : zh_H B Q) : zh_H (if c then A else B) Q := by
  rw [if_neg h]
  exact h1
/-! loops -/
theorem zh_loop {σ ρ : Type} {F : Nat → σ → Option ρ} {Q : ρ → Prop} (I : σ → Prop) (μ : σ → Nat) (hs : ∀ fu s, I s → (∀ s', I s' → μ s' < μ s → zh_H (F fu s') Q) → zh_H (F (fu + 1) s) Q) : ∀ fu s, I s → μ s < fu → zh_H (F fu s) Q
  | 0, _, _, h => absurd h (Nat.not_lt_zero _)
  | fu + 1, s, hI, h => hs fu s hI (fun s' h1 h2 => zh_loop I μ hs fu s' h1 (by omega))
theorem zh_up {σ ρ : Type} {F : Nat → Int32 → σ → Option ρ} {Q : ρ → Prop} (n : Nat) (I : Nat → σ → Prop) (hs : ∀ fu i s, i < n → I i s → (∀ s', I (i + 1) s' → zh_H (F fu (nI (i + 1)) s') Q) → zh_H (F (fu + 1) (nI i) s) Q) (he : ∀ fu s, I n s → zh_H (F (fu + 1) (nI n) s) Q) : ∀ fu i s, i ≤ n → n - i < fu → I i s → zh_H (F fu (nI i) s) Q
  | 0, _, _, _, h, _ => absurd h (Nat.not_lt_zero _)
  | fu + 1, i, s, h1, h2, h3 => by
    by_cases e : i = n
    · subst e
      exact he fu s h3
    · exact hs fu i s (by omega) h3 (fun s' h => zh_up n I hs he fu (i + 1) s' (by omega) (by omega) h)
/-- a loop that counts down from i - 1 to 0, the index as an int that may be -1 -/
def zz_d (i : Nat) : Int32 := nI i - 1
/-! numbers -/
theorem zi_lit (n : Nat) : (OfNat.ofNat n : Int32) = nI n := rfl
theorem zi_0 : (0 : Int32) = nI 0 := rfl
theorem zi_add (a b : Nat) : nI a + nI b = nI (a + b) := nI_add a b
theorem zi_sub {a b : Nat} (h : b ≤ a) : nI a - nI b = nI (a - b) := by
  have e : nI a = nI (a - b) + nI b := by rw [nI_add, Nat.sub_add_cancel h]
  rw [e]
  simp
theorem zi_mul (a b : Nat) : nI a * nI b = nI (a * b) := by
  unfold nI
  exact (Int32.ofNat_mul a b).symm
theorem zi_le {a b : Nat} (ha : a < 2 ^ 31) (hb : b < 2 ^ 31) : (nI a ≤ nI b) = (a ≤ b) := propext (nI_leI ha hb)
theorem zi_lt {a b : Nat} (ha : a < 2 ^ 31) (hb : b < 2 ^ 31) : (nI a < nI b) = (a < b) := propext (nI_ltI ha hb)
theorem zi_eq {a b : Nat} (ha : a < 2 ^ 31) (hb : b < 2 ^ 31) : (nI a = nI b) = (a = b) := propext (nI_eq ha hb)
theorem zi_n1 {a : Nat} (ha : a < 2 ^ 31) : nI a ≠ (-1 : Int32) := by
  intro h
  have h1 := nI_toInt ha
  rw [h] at h1
  have : (-1 : Int32).toInt = -1 := rfl
  omega
theorem zi_n1lt : (-1 : Int32) < 0 := by decide
theorem zi_lt0 {x : Int32} (h : ¬ x < 0) : ∃ n : Nat, n < 2 ^ 31 ∧ x = nI n := nI_of h
theorem zi_int {x : Int32} : (x < 0) = (x.toInt < 0) := by
  rw [Int32.lt_iff_toInt_lt]
  rfl
/-- a number or none: none is -1 -/
def zo_N : Option Nat → Int32 := fun o => match o with
  | none => -1
  | some v => nI v
theorem zo_none : zo_N none = -1 := rfl
theorem zo_some (v : Nat) : zo_N (some v) = nI v := rfl
theorem zo_is1 {o : Option Nat} (h : ∀ v, o = some v → v < 2 ^ 31) : (zo_N o = -1) = (o = none) := by
  cases o with
  | none => simp [zo_N]
  | some v => simp [zo_N, zi_n1 (h v rfl)]
def zb_B (b : Bool) : Int32 := if b then 1 else 0
theorem zb_t : zb_B true = 1 := rfl
theorem zb_f : zb_B false = 0 := rfl
theorem zb_0 {b : Bool} : (zb_B b = 0) = (b = false) := by
  cases b <;> simp [zb_B]
theorem zb_Zok (b : Bool) : zb_Z (zb_B b) = some (zb_B b) := by
  cases b <;> rfl
/-! the memory: what is written is read -/
theorem zm_k {M M' : mm_T} (hn : mm_n M' = mm_n M) (hK : mm_K M' = mm_K M) (a : Nat) : mm_k M' a = mm_k M a := by
  unfold mm_k
  rw [hn, hK]
theorem zm_kI (M : mm_T) (a k : Nat) (v : Int32) (x : Nat) : mm_k (mm_sI M a k v) x = mm_k M x := rfl
theorem zm_kJ (M : mm_T) (a k : Nat) (v : Int64) (x : Nat) : mm_k (mm_sJ M a k v) x = mm_k M x := rfl
theorem zm_kR (M : mm_T) (a k : Nat) (v : Nat) (x : Nat) : mm_k (mm_sR M a k v) x = mm_k M x := rfl
theorem zm_II (M : mm_T) (a k : Nat) (v : Int32) (x y : Nat) : mm_I (mm_sI M a k v) x y = if x = a ∧ y = k then v else mm_I M x y := rfl
theorem zm_IJ (M : mm_T) (a k : Nat) (v : Int64) (x y : Nat) : mm_I (mm_sJ M a k v) x y = mm_I M x y := rfl
theorem zm_IR (M : mm_T) (a k : Nat) (v : Nat) (x y : Nat) : mm_I (mm_sR M a k v) x y = mm_I M x y := rfl
theorem zm_JI (M : mm_T) (a k : Nat) (v : Int32) (x y : Nat) : mm_J (mm_sI M a k v) x y = mm_J M x y := rfl
theorem zm_JJ (M : mm_T) (a k : Nat) (v : Int64) (x y : Nat) : mm_J (mm_sJ M a k v) x y = if x = a ∧ y = k then v else mm_J M x y := rfl
theorem zm_JR (M : mm_T) (a k : Nat) (v : Nat) (x y : Nat) : mm_J (mm_sR M a k v) x y = mm_J M x y := rfl
theorem zm_RI (M : mm_T) (a k : Nat) (v : Int32) (x y : Nat) : mm_R (mm_sI M a k v) x y = mm_R M x y := rfl
theorem zm_RJ (M : mm_T) (a k : Nat) (v : Int64) (x y : Nat) : mm_R (mm_sJ M a k v) x y = mm_R M x y := rfl
theorem zm_RR (M : mm_T) (a k : Nat) (v : Nat) (x y : Nat) : mm_R (mm_sR M a k v) x y = if x = a ∧ y = k then v else mm_R M x y := rfl
theorem zm_same (M : mm_T) (a k : Nat) : mm_sI M a k (mm_I M a k) = M := by
  obtain ⟨n, c, u, K, I, J, R⟩ := M
  simp only [mm_sI, mm_n, mm_c, mm_u, mm_K, mm_I, mm_J, mm_R, Prod.mk.injEq, true_and, and_true]
  funext x y
  simp only [mm_u2]
  split
  · rename_i h; rw [h.1, h.2]
  · rfl
theorem zm_sameJ (M : mm_T) (a k : Nat) : mm_sJ M a k (mm_J M a k) = M := by
  obtain ⟨n, c, u, K, I, J, R⟩ := M
  simp only [mm_sJ, mm_n, mm_c, mm_u, mm_K, mm_I, mm_J, mm_R, Prod.mk.injEq, true_and, and_true]
  funext x y
  simp only [mm_u2]
  split
  · rename_i h; rw [h.1, h.2]
  · rfl
/-- only ints and longs changed, and those at the addresses of A alone -/
def zf_F (M M' : mm_T) (A : Nat → Prop) : Prop := mm_n M' = mm_n M ∧ mm_c M' = mm_c M ∧ mm_u M' = mm_u M ∧ mm_K M' = mm_K M ∧ mm_R M' = mm_R M ∧ ∀ a, ¬ A a → ∀ k, mm_I M' a k = mm_I M a k ∧ mm_J M' a k = mm_J M a k
theorem zf_rfl (M : mm_T) (A : Nat → Prop) : zf_F M M A := ⟨rfl, rfl, rfl, rfl, rfl, fun _ _ _ => ⟨rfl, rfl⟩⟩
theorem zf_tr {M M1 M2 : mm_T} {A : Nat → Prop} (h : zf_F M M1 A) (h2 : zf_F M1 M2 A) : zf_F M M2 A := by
  obtain ⟨a1, a2, a3, a4, a5, a6⟩ := h
  obtain ⟨b1, b2, b3, b4, b5, b6⟩ := h2
  exact ⟨b1.trans a1, b2.trans a2, b3.trans a3, b4.trans a4, b5.trans a5, fun a ha k => ⟨(b6 a ha k).1.trans (a6 a ha k).1, (b6 a ha k).2.trans (a6 a ha k).2⟩⟩
theorem zf_mono {M M1 : mm_T} {A B : Nat → Prop} (h : zf_F M M1 A) (hAB : ∀ a, A a → B a) : zf_F M M1 B := by
  obtain ⟨a1, a2, a3, a4, a5, a6⟩ := h
  exact ⟨a1, a2, a3, a4, a5, fun a ha k => a6 a (fun q => ha (hAB a q)) k⟩
theorem zf_I {M : mm_T} {A : Nat → Prop} {a : Nat} (ha : A a) (k : Nat) (v : Int32) : zf_F M (mm_sI M a k v) A :=
  ⟨rfl, rfl, rfl, rfl, rfl, fun x hx y => ⟨by rw [zm_II, if_neg (fun q : x = a ∧ y = k => hx (q.1 ▸ ha))], rfl⟩⟩
theorem zf_J {M : mm_T} {A : Nat → Prop} {a : Nat} (ha : A a) (k : Nat) (v : Int64) : zf_F M (mm_sJ M a k v) A :=
  ⟨rfl, rfl, rfl, rfl, rfl, fun x hx y => ⟨rfl, by rw [zm_JJ, if_neg (fun q : x = a ∧ y = k => hx (q.1 ▸ ha))]⟩⟩
theorem zf_k {M M' : mm_T} {A : Nat → Prop} (h : zf_F M M' A) (a : Nat) : mm_k M' a = mm_k M a := zm_k h.1 h.2.2.2.1 a
theorem zf_R {M M' : mm_T} {A : Nat → Prop} (h : zf_F M M' A) (a k : Nat) : mm_R M' a k = mm_R M a k := by rw [h.2.2.2.2.1]
theorem zf_i {M M' : mm_T} {A : Nat → Prop} (h : zf_F M M' A) {a : Nat} (ha : ¬ A a) (k : Nat) : mm_I M' a k = mm_I M a k := (h.2.2.2.2.2 a ha k).1
theorem zf_j {M M' : mm_T} {A : Nat → Prop} (h : zf_F M M' A) {a : Nat} (ha : ¬ A a) (k : Nat) : mm_J M' a k = mm_J M a k := (h.2.2.2.2.2 a ha k).2
/-! reading and writing fields and rows -/
theorem zg_I {M : mm_T} {a c k : Nat} (h : (mm_k M a).1 = c) : gf_I M a c k = some (mm_I M a k) := if_pos h
theorem zg_R {M : mm_T} {a c k : Nat} (h : (mm_k M a).1 = c) : gf_R M a c k = some (mm_R M a k) := if_pos h
theorem zp_I {M : mm_T} {a c k : Nat} (h : (mm_k M a).1 = c) (v : Int32) : pf_I M a c k v = some (mm_sI M a k v) := if_pos h
theorem zp_Z {M : mm_T} {a c k : Nat} (h : (mm_k M a).1 = c) (b : Bool) : pf_Z M a c k (zb_B b) = some (mm_sI M a k (zb_B b)) := if_pos ⟨h, by cases b <;> simp [zb_B]⟩
theorem zp_Z1 {M : mm_T} {a c k : Nat} (h : (mm_k M a).1 = c) : pf_Z M a c k 1 = some (mm_sI M a k 1) := if_pos ⟨h, Or.inr rfl⟩
theorem zp_Z0 {M : mm_T} {a c k : Nat} (h : (mm_k M a).1 = c) : pf_Z M a c k 0 = some (mm_sI M a k 0) := if_pos ⟨h, Or.inl rfl⟩
theorem za_N {M : mm_T} {a d n : Nat} (h : mm_k M a = (d, n)) (hd : 20 ≤ d ∧ d ≤ 23) : al_N M a = some (nI n) := by
  unfold al_N
  rw [h, if_pos hd]
  rfl
theorem za_I {M : mm_T} {a n j : Nat} (h : mm_k M a = (20, n)) (hj : j < n) (hn : n < 2 ^ 31) : ar_I M a (nI j) = some (mm_I M a j) := by
  have e := nI_toInt (n := j) (by omega)
  unfold ar_I
  rw [h, e, if_pos ⟨rfl, by omega, by omega⟩, Int.toNat_natCast]
theorem za_J {M : mm_T} {a n j : Nat} (h : mm_k M a = (21, n)) (hj : j < n) (hn : n < 2 ^ 31) : ar_J M a (nI j) = some (mm_J M a j) := by
  have e := nI_toInt (n := j) (by omega)
  unfold ar_J
  rw [h, e, if_pos ⟨rfl, by omega, by omega⟩, Int.toNat_natCast]
theorem za_Z {M : mm_T} {a n j : Nat} (h : mm_k M a = (22, n)) (hj : j < n) (hn : n < 2 ^ 31) : ar_Z M a (nI j) = some (mm_I M a j) := by
  have e := nI_toInt (n := j) (by omega)
  unfold ar_Z
  rw [h, e, if_pos ⟨rfl, by omega, by omega⟩, Int.toNat_natCast]
theorem za_R {M : mm_T} {a n j : Nat} (h : mm_k M a = (23, n)) (hj : j < n) (hn : n < 2 ^ 31) : ar_R M a (nI j) = some (mm_R M a j) := by
  have e := nI_toInt (n := j) (by omega)
  unfold ar_R
  rw [h, e, if_pos ⟨rfl, by omega, by omega⟩, Int.toNat_natCast]
theorem zw_I {M : mm_T} {a n j : Nat} (h : mm_k M a = (20, n)) (hj : j < n) (hn : n < 2 ^ 31) (v : Int32) : aw_I M a (nI j) v = some (mm_sI M a j v) := by
  have e := nI_toInt (n := j) (by omega)
  unfold aw_I
  rw [h, e, if_pos ⟨rfl, by omega, by omega⟩, Int.toNat_natCast]
theorem zw_J {M : mm_T} {a n j : Nat} (h : mm_k M a = (21, n)) (hj : j < n) (hn : n < 2 ^ 31) (v : Int64) : aw_J M a (nI j) v = some (mm_sJ M a j v) := by
  have e := nI_toInt (n := j) (by omega)
  unfold aw_J
  rw [h, e, if_pos ⟨rfl, by omega, by omega⟩, Int.toNat_natCast]
theorem zw_Z {M : mm_T} {a n j : Nat} (h : mm_k M a = (22, n)) (hj : j < n) (hn : n < 2 ^ 31) (b : Bool) : aw_Z M a (nI j) (zb_B b) = some (mm_sI M a j (zb_B b)) := by
  have e := nI_toInt (n := j) (by omega)
  unfold aw_Z
  rw [h, e, if_pos ⟨rfl, ⟨by omega, by omega⟩, by cases b <;> simp [zb_B]⟩, Int.toNat_natCast]
theorem zd_at {M : mm_T} {a n j : Nat} (h : mm_k M a = (20, n)) (hj : j < n) (hn : n < 2 ^ 31) : ff_D_at_a a (nI j) M = some (mm_I M a j) := by
  unfold ff_D_at_a
  rw [if_neg (nI_pos (by omega)), za_N h (by omega), Option.bind_some, if_neg (nI_ge hj hn), za_I h hj hn, Option.bind_some]
theorem zd_atO {M : mm_T} {a n j : Nat} (h : mm_k M a = (20, n)) (hj : n ≤ j) (hn : j < 2 ^ 31) : ff_D_at_a a (nI j) M = some 0 := by
  unfold ff_D_at_a
  rw [if_neg (nI_pos (by omega)), za_N h (by omega), Option.bind_some, if_pos (nI_le hj hn)]
theorem zd_atL {M : mm_T} {a n j : Nat} (h : mm_k M a = (21, n)) (hj : j < n) (hn : n < 2 ^ 31) : ff_D_at_b a (nI j) M = some (mm_J M a j) := by
  unfold ff_D_at_b
  rw [if_neg (nI_pos (by omega)), za_N h (by omega), Option.bind_some, if_neg (nI_ge hj hn), za_J h hj hn, Option.bind_some]
theorem zd_put {M : mm_T} {a n j : Nat} (h : mm_k M a = (20, n)) (hj : j < n) (hn : n < 2 ^ 31) (v : Int32) : ff_D_put_a a (nI j) v M = some (mm_sI M a j v) := by
  unfold ff_D_put_a
  rw [if_neg (nI_pos (by omega)), za_N h (by omega), Option.bind_some, if_neg (nI_ge hj hn), zw_I h hj hn, Option.bind_some]
theorem zd_putO {M : mm_T} {a n j : Nat} (h : mm_k M a = (20, n)) (hj : n ≤ j) (hn : j < 2 ^ 31) (v : Int32) : ff_D_put_a a (nI j) v M = some M := by
  unfold ff_D_put_a
  rw [if_neg (nI_pos (by omega)), za_N h (by omega), Option.bind_some, if_pos (nI_le hj hn)]
theorem zd_putL {M : mm_T} {a n j : Nat} (h : mm_k M a = (21, n)) (hj : j < n) (hn : n < 2 ^ 31) (v : Int64) : ff_D_put_b a (nI j) v M = some (mm_sJ M a j v) := by
  unfold ff_D_put_b
  rw [if_neg (nI_pos (by omega)), za_N h (by omega), Option.bind_some, if_neg (nI_ge hj hn), zw_J h hj hn, Option.bind_some]
