/-! ===== least sets; rounds until nothing changes; counting ===== -/
/-- the least set that holds I and goes on along E -/
def zs_R (I : Nat → Prop) (E : Nat → Nat → Prop) (q : Nat) : Prop := ∀ S : Nat → Prop, (∀ p, I p → S p) → (∀ p q, S p → E p q → S q) → S q
theorem zs_in {I : Nat → Prop} {E : Nat → Nat → Prop} {p : Nat} (h : I p) : zs_R I E p := fun _ h0 _ => h0 p h
theorem zs_go {I : Nat → Prop} {E : Nat → Nat → Prop} {p q : Nat} (h : zs_R I E p) (e : E p q) : zs_R I E q := fun S h0 h1 => h1 p q (h S h0 h1) e
theorem zs_ind {I : Nat → Prop} {E : Nat → Nat → Prop} {S : Nat → Prop} (h0 : ∀ p, I p → S p) (h1 : ∀ p q, zs_R I E p → S p → E p q → S q) {q : Nat} (h : zs_R I E q) : S q :=
  (h (fun q => zs_R I E q ∧ S q) (fun p hp => ⟨zs_in hp, h0 p hp⟩) (fun p q hp e => ⟨zs_go hp.1 e, h1 p q hp.1 hp.2 e⟩)).2
theorem zs_inv {I : Nat → Prop} {E : Nat → Nat → Prop} {q : Nat} (h : zs_R I E q) : I q ∨ ∃ p, zs_R I E p ∧ E p q :=
  zs_ind (S := fun q => I q ∨ ∃ p, zs_R I E p ∧ E p q) (fun _ hp => Or.inl hp) (fun p _ hp _ e => Or.inr ⟨p, hp, e⟩) h
theorem zs_mono {I I' : Nat → Prop} {E E' : Nat → Nat → Prop} (h0 : ∀ p, I p → zs_R I' E' p) (h1 : ∀ p q, zs_R I' E' p → E p q → zs_R I' E' q) {q : Nat} (h : zs_R I E q) : zs_R I' E' q := h _ h0 h1
/-- from p one comes to q -/
def zs_P (E : Nat → Nat → Prop) (p q : Nat) : Prop := zs_R (fun x => x = p) E q
theorem zs_P0 {E : Nat → Nat → Prop} (p : Nat) : zs_P E p p := zs_in rfl
theorem zs_Pgo {E : Nat → Nat → Prop} {p q r : Nat} (h : zs_P E p q) (e : E q r) : zs_P E p r := zs_go h e
theorem zs_Ptr {E : Nat → Nat → Prop} {p q r : Nat} (h : zs_P E p q) (h2 : zs_P E q r) : zs_P E p r := zs_ind (I := fun x => x = q) (S := fun r => zs_P E p r) (fun x hx => hx ▸ h) (fun _ _ _ h e => zs_Pgo h e) h2
theorem zs_P1 {E : Nat → Nat → Prop} {p q : Nat} (e : E p q) : zs_P E p q := zs_Pgo (zs_P0 p) e
theorem zs_Pcons {E : Nat → Nat → Prop} {p q r : Nat} (e : E p q) (h : zs_P E q r) : zs_P E p r := zs_Ptr (zs_P1 e) h
theorem zs_RP {I : Nat → Prop} {E : Nat → Nat → Prop} {q : Nat} : zs_R I E q ↔ ∃ p, I p ∧ zs_P E p q := by
  constructor
  · exact zs_ind (S := fun q => ∃ p, I p ∧ zs_P E p q) (fun p hp => ⟨p, hp, zs_P0 p⟩) (fun _ _ _ ⟨p, h1, h2⟩ e => ⟨p, h1, zs_Pgo h2 e⟩)
  · rintro ⟨p, h1, h2⟩
    exact zs_ind (I := fun x => x = p) (S := fun q => zs_R I E q) (fun x hx => hx ▸ zs_in h1) (fun _ _ _ h e => zs_go h e) h2
/-- induction from the end backwards: what holds at q and goes back along E -/
theorem zs_back {E : Nat → Nat → Prop} {S : Nat → Prop} {p q : Nat} (h : zs_P E p q) (hq : S q) (hb : ∀ x y, E x y → S y → S x) : S p :=
  zs_ind (I := fun x => x = p) (S := fun r => S r → S p) (fun x hx hs => hx ▸ hs) (fun x y _ ih e hy => ih (hb x y e hy)) h hq
theorem zs_fix {ρ : Type} {Fin : Nat → (Int32 → mm_T → Option ρ) → Nat → Int32 → Nat → mm_T → Option ρ} {Fout : Nat → Int32 → Nat → mm_T → Option ρ} {k0 : mm_T → Option ρ} {Q : ρ → Prop} (n B : Nat) (Inv : mm_T → Prop) (St : Nat → mm_T → Prop) (μ : mm_T → Nat) (T : Nat → mm_T → Bool → mm_T → Prop)
    (hin : ∀ r cont fu q i N, i < n → Inv N → (∀ c N', T i N c N' → zh_H (Fin r cont fu (if c = true then 1 else q) (i + 1) N') Q) → zh_H (Fin r cont (fu + 1) q i N) Q)
    (hine : ∀ r cont fu q N, Fin r cont (fu + 1) q n N = cont q N)
    (hT : ∀ i N c N', i < n → Inv N → T i N c N' → Inv N' ∧ (c = true → μ N' < μ N) ∧ (c = false → μ N' ≤ μ N ∧ St i N' ∧ ∀ j, j < n → St j N → St j N'))
    (hout0 : ∀ fu r N, Fout (fu + 1) 0 r N = k0 N)
    (hout1 : ∀ fu r N, r < 100000 → Fout (fu + 1) 1 r N = Fin r (fun q' N' => Fout fu q' (r + 1) N') fu_L 0 0 N)
    (hn : n < fu_L) (hB : B < 100000)
    (hk : ∀ N, Inv N → (∀ i, i < n → St i N) → zh_H (k0 N) Q) :
    ∀ fu r N, Inv N → r + μ N ≤ B → B + 1 - r < fu → zh_H (Fout fu 1 r N) Q := by
  intro fu
  induction fu with
  | zero => intro r N _ _ h; exact absurd h (Nat.not_lt_zero _)
  | succ fu ih =>
    intro r N hI hr hf
    rw [hout1 fu r N (by omega)]
    have key : ∀ fu' i q N', i ≤ n → n - i < fu' → Inv N' → μ N' ≤ μ N → ((q = 0 ∧ ∀ j, j < i → St j N') ∨ (q = 1 ∧ μ N' < μ N)) → zh_H (Fin r (fun q' N' => Fout fu q' (r + 1) N') fu' q i N') Q := by
      intro fu'
      induction fu' with
      | zero => intro i q N' _ h; exact absurd h (Nat.not_lt_zero _)
      | succ fu' ih' =>
        intro i q N' hi hf' hI' hμ hq
        by_cases e : i = n
        · subst e
          rw [hine]
          rcases hq with ⟨rfl, hq⟩ | ⟨rfl, hq⟩
          · obtain ⟨fu2, rfl⟩ : ∃ x, fu = x + 1 := ⟨fu - 1, by omega⟩
            show zh_H (Fout (fu2 + 1) 0 (r + 1) N') Q
            rw [hout0]
            exact hk N' hI' hq
          · exact ih (r + 1) N' hI' (by omega) (by omega)
        · have hi2 : i < n := by omega
          refine hin r _ fu' q i N' hi2 hI' (fun c N2 hc => ?_)
          obtain ⟨t1, t2, t3⟩ := hT i N' c N2 hi2 hI' hc
          cases c with
          | true =>
            have := t2 rfl
            exact ih' (i + 1) 1 N2 (by omega) (by omega) t1 (by omega) (Or.inr ⟨rfl, by omega⟩)
          | false =>
            obtain ⟨t4, t5, t6⟩ := t3 rfl
            refine ih' (i + 1) q N2 (by omega) (by omega) t1 (by omega) ?_
            rcases hq with ⟨rfl, hq⟩ | ⟨rfl, hq⟩
            · refine Or.inl ⟨rfl, fun j hj => ?_⟩
              rcases Nat.lt_or_ge j i with c | c
              · exact t6 j (by omega) (hq j c)
              · rw [show j = i by omega]; exact t5
            · exact Or.inr ⟨rfl, by omega⟩
    exact key fu_L 0 0 N (Nat.zero_le _) (by omega) hI (Nat.le_refl _) (Or.inl ⟨rfl, fun j hj => absurd hj (Nat.not_lt_zero _)⟩)
/-- fewer where one place is lost -/
theorem zs_ctlt {p q : Nat → Bool} {n : Nat} (h : ∀ k, k < n → p k = true → q k = true) {x : Nat} (hx : x < n) (hp : p x = false) (hq : q x = true) : fb_ct p n < fb_ct q n := by
  have h1 : fb_ct (fun k => if k = x then true else p k) n ≤ fb_ct q n := fb_ct_sub (fun k hk hk2 => by
    by_cases e : k = x
    · rw [e]; exact hq
    · simp only [e, if_false] at hk2; exact h k hk hk2)
  have h2 := fb_ct_upd p true hx
  rw [hp] at h2
  simp only [Bool.false_eq_true, if_false, if_true] at h2
  omega
theorem zs_fuel : fu_L = 1000000 := rfl
/-! sets of numbers as bits -/
def bl (x : Int64) (i : Nat) : Bool := x.toBitVec.getLsbD i
theorem zl_or (x y : Int64) (i : Nat) : bl (x ||| y) i = (bl x i || bl y i) := by
  unfold bl
  rw [Int64.toBitVec_or, BitVec.getLsbD_or]
theorem zl_and (x y : Int64) (i : Nat) : bl (x &&& y) i = (bl x i && bl y i) := by
  unfold bl
  rw [Int64.toBitVec_and, BitVec.getLsbD_and]
theorem zl_not (x : Int64) {i : Nat} (hi : i < 64) : bl (x ^^^ (-1)) i = !bl x i := by
  unfold bl
  rw [Int64.toBitVec_xor, BitVec.getLsbD_xor]
  have : (-1 : Int64).toBitVec = BitVec.allOnes 64 := by decide
  rw [this, BitVec.getLsbD_allOnes]
  simp [hi]
theorem zl_0 (i : Nat) : bl 0 i = false := by
  unfold bl
  simp
theorem zl_m1 {i : Nat} (hi : i < 64) : bl (-1) i = true := by
  unfold bl
  have : (-1 : Int64).toBitVec = BitVec.allOnes 64 := by decide
  rw [this, BitVec.getLsbD_allOnes]
  simp [hi]
theorem zl_ext {x y : Int64} (h : ∀ i, i < 64 → bl x i = bl y i) : x = y := Int64.toBitVec_inj.mp (BitVec.eq_of_getLsbD_eq (fun i hi => h i hi))
theorem zl_big {x : Int64} {i : Nat} (h : 64 ≤ i) : bl x i = false := by
  unfold bl
  exact BitVec.getLsbD_of_ge _ _ h
theorem zl_one (k : Nat) (hk : k < 64) (i : Nat) : bl (jo_shl 1 (nI k)) i = decide (i = k) := by
  unfold jo_shl
  have e : (1 : Int64) = lN 1 := rfl
  rw [e, wb_shl 1 hk]
  unfold bl
  rw [wb_tb, Nat.one_mul, BitVec.getLsbD_ofNat, Nat.testBit_two_pow]
  by_cases c : i = k
  · subst c; simp [hk]
  · simp [c, Ne.symm c]
theorem zb_one (k : Nat) (hk : k < 32) (i : Nat) : bt (io_shl 1 (nI k)) i = decide (i = k) := by
  unfold io_shl
  rcases Nat.lt_or_ge i 32 with hi | hi
  · rw [b_shl k hk 1 hi]
    have e : bt 1 (i - k) = decide (i - k = 0) := by
      unfold bt
      simp
    rw [e]
    by_cases c : i = k
    · subst c; simp
    · by_cases c2 : k ≤ i
      · simp [c2, c]; omega
      · simp [c2, c]
  · rw [b_big hi]
    have : i ≠ k := by omega
    simp [this]
theorem zb_not (x : Int32) {i : Nat} (hi : i < 32) : bt (x ^^^ (-1)) i = !bt x i := by
  rw [b_xor, b_m1 i hi]
  cases bt x i <;> rfl
theorem zb_1 (i : Nat) : bt 1 i = decide (i = 0) := by
  unfold bt
  simp
theorem zl_1 (i : Nat) : bl 1 i = decide (i = 0) := by
  unfold bl
  simp
/-- the test of one bit, as the class does it -/
theorem zl_hasBit {x : Int64} {k : Nat} (hk : k < 64) (M : mm_T) : ff_D_hasBit x (nI k) M = some (zb_B (bl x k)) := by
  have e := ts_bit (w := x) (s := (nI k).toInt64.toUInt64 &&& Int64.toUInt64 63) hk (by rw [wb_cu k hk, u_tn (by omega)])
  unfold ff_D_hasBit jo_ushr
  have e2 : ∀ y : Int64, lg_cmp y 0 = 0 ↔ y = 0 := by
    intro y
    unfold lg_cmp
    by_cases c : y = 0
    · rw [if_neg (by rw [c]; exact Int64.lt_irrefl), if_pos c]; simp [c]
    · rw [if_neg c]
      by_cases c2 : y > 0
      · rw [if_pos c2]; simp [c]
      · rw [if_neg c2]; simp only [c, iff_false]; decide
  cases h : bl x k with
  | false =>
    rw [if_pos ((e2 _).mpr (e.mpr h))]
    rfl
  | true =>
    rw [if_neg (fun q => by have := e.mp ((e2 _).mp q); unfold bl at h; rw [this] at h; cases h)]
    rfl
