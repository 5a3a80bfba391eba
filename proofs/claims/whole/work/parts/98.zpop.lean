/-! ===== counting bits ===== -/
def zq_m (c : Nat) : Nat → Nat
  | 0 => 0
  | n + 1 => c + 256 * zq_m c n
theorem zq_land {a b c d : Nat} (ha : a < 256) (hc : c < 256) : (a + 256 * b) &&& (c + 256 * d) = (a &&& c) + 256 * (b &&& d) := by
  have hac : a &&& c < 2 ^ 8 := Nat.and_lt_two_pow _ (show c < 2 ^ 8 from hc)
  refine Nat.eq_of_testBit_eq fun j => ?_
  rw [Nat.testBit_and, show a + 256 * b = 2 ^ 8 * b + a by omega, show c + 256 * d = 2 ^ 8 * d + c by omega, show (a &&& c) + 256 * (b &&& d) = 2 ^ 8 * (b &&& d) + (a &&& c) by omega, Nat.testBit_two_pow_mul_add _ (show a < 2 ^ 8 from ha), Nat.testBit_two_pow_mul_add _ (show c < 2 ^ 8 from hc), Nat.testBit_two_pow_mul_add _ hac]
  split
  · rw [Nat.testBit_and]
  · rw [Nat.testBit_and]
def zq_1 (n x : Nat) : Nat := x - ((x / 2) &&& zq_m 0x55 n)
def zq_2 (n x : Nat) : Nat := (x &&& zq_m 0x33 n) + ((x / 4) &&& zq_m 0x33 n)
def zq_3 (n x : Nat) : Nat := (x + x / 16) &&& zq_m 0x0f n
def zq_a (a : Nat) : Nat := a - ((a / 2) &&& 0x55)
def zq_b (a : Nat) : Nat := (a &&& 0x33) + ((a / 4) &&& 0x33)
theorem zq_d1 : ∀ a, a < 128 → ∀ e, e < 2 → (a + 128 * e) &&& 0x55 = a &&& 0x55 := by decide +kernel
theorem zq_d2 : ∀ a, a < 64 → ∀ e, e < 4 → (a + 64 * e) &&& 0x33 = a &&& 0x33 := by decide +kernel
theorem zq_d3 : ∀ a, a < 256 → (a / 2) &&& 0x55 ≤ a := by decide +kernel
theorem zq_d4 : ∀ a, a < 256 → zq_b (zq_a a) % 16 ≤ 4 ∧ zq_b (zq_a a) ≤ 0x44 := by decide +kernel
theorem zq_d5 : ∀ a, a < 256 → (zq_b (zq_a a) + zq_b (zq_a a) / 16) % 16 = fb_ct (fun k => a.testBit k) 8 := by decide +kernel
theorem zq_s1 {n a y : Nat} (ha : a < 256) (hy : (y / 2) &&& zq_m 0x55 n ≤ y) : zq_1 (n + 1) (a + 256 * y) = zq_a a + 256 * zq_1 n y ∧ ((a + 256 * y) / 2) &&& zq_m 0x55 (n + 1) ≤ a + 256 * y := by
  have e : (a + 256 * y) / 2 = (a / 2 + 128 * (y % 2)) + 256 * (y / 2) := by omega
  have e2 : ((a + 256 * y) / 2) &&& zq_m 0x55 (n + 1) = ((a / 2) &&& 0x55) + 256 * ((y / 2) &&& zq_m 0x55 n) := by
    rw [e]
    show _ &&& (0x55 + 256 * zq_m 0x55 n) = _
    rw [zq_land (by omega) (by omega), zq_d1 (a / 2) (by omega) (y % 2) (by omega)]
  have := zq_d3 a ha
  unfold zq_1 zq_a
  rw [e2]
  constructor <;> omega
theorem zq_s2 {n a y : Nat} (ha : a < 256) : zq_2 (n + 1) (a + 256 * y) = zq_b a + 256 * zq_2 n y := by
  have e : (a + 256 * y) / 4 = (a / 4 + 64 * (y % 4)) + 256 * (y / 4) := by omega
  unfold zq_2 zq_b
  rw [e]
  show (_ &&& (0x33 + 256 * zq_m 0x33 n)) + (_ &&& (0x33 + 256 * zq_m 0x33 n)) = _
  rw [zq_land ha (by omega), zq_land (by omega) (by omega), zq_d2 (a / 4) (by omega) (y % 4) (by omega)]
  omega
theorem zq_s3 {n a y : Nat} (ha : a ≤ 0x44) (hy : y % 16 ≤ 4) : zq_3 (n + 1) (a + 256 * y) = (a + a / 16) % 16 + 256 * zq_3 n y := by
  have e : a + 256 * y + (a + 256 * y) / 16 = (a + a / 16 + 16 * (y % 16)) + 256 * (y + y / 16) := by omega
  unfold zq_3
  rw [e]
  show _ &&& (0x0f + 256 * zq_m 0x0f n) = _
  rw [zq_land (by omega) (by omega), show (0x0f : Nat) = 2 ^ 4 - 1 from rfl, Nat.and_two_pow_sub_one_eq_mod]
  omega
/-- the bytes' counts, side by side, and their sum -/
def zq_T (a : Nat) : Nat := fb_ct (fun k => a.testBit k) 8
def zq_D : Nat → Nat → Nat
  | 0, _ => 0
  | n + 1, x => zq_T (x % 256) + 256 * zq_D n (x / 256)
def zq_S : Nat → Nat → Nat
  | 0, _ => 0
  | n + 1, x => zq_T (x % 256) + zq_S n (x / 256)
theorem zq_main : ∀ n x, x < 256 ^ n → ((x / 2) &&& zq_m 0x55 n ≤ x) ∧ zq_2 n (zq_1 n x) % 16 ≤ 4 ∧ zq_3 n (zq_2 n (zq_1 n x)) = zq_D n x := by
  intro n
  induction n with
  | zero =>
    intro x hx
    rw [Nat.pow_zero] at hx
    obtain rfl : x = 0 := by omega
    decide
  | succ n ih =>
    intro x hx
    have hy : x / 256 < 256 ^ n := by
      rw [Nat.pow_succ] at hx
      omega
    obtain ⟨i1, i2, i3⟩ := ih (x / 256) hy
    have ha : x % 256 < 256 := by omega
    have ex : x = x % 256 + 256 * (x / 256) := by omega
    obtain ⟨s1, s2⟩ := zq_s1 (n := n) ha i1
    obtain ⟨d1, d2⟩ := zq_d4 (x % 256) ha
    have hlt : zq_a (x % 256) < 256 := by unfold zq_a; omega
    have e2 : zq_2 (n + 1) (zq_1 (n + 1) x) = zq_b (zq_a (x % 256)) + 256 * zq_2 n (zq_1 n (x / 256)) := by
      rw [ex, s1, zq_s2 hlt, ← ex]
    refine ⟨?_, ?_, ?_⟩
    · rw [ex]; exact s2
    · rw [e2]; omega
    · rw [e2, zq_s3 d2 i2, i3, zq_d5 _ ha]
      rfl
theorem zq_T8 (a : Nat) : zq_T a ≤ 8 := fb_ct_le _ _
theorem zq_sum : ∀ n x, fb_ct (fun k => x.testBit k) (8 * n) = zq_S n x := by
  intro n
  induction n with
  | zero => intro x; rfl
  | succ n ih =>
    intro x
    rw [show 8 * (n + 1) = 8 + 8 * n by omega, fb_ct_split]
    show _ = zq_T (x % 256) + zq_S n (x / 256)
    rw [← ih (x / 256)]
    congr 1
    · refine fb_ct_cong (fun k hk => ?_)
      rw [show (256 : Nat) = 2 ^ 8 from rfl, Nat.testBit_mod_two_pow]
      simp [hk]
    · refine fb_ct_cong (fun k hk => ?_)
      rw [show (256 : Nat) = 2 ^ 8 from rfl, Nat.testBit_div_two_pow, Nat.add_comm]
theorem zq_dv {lo hi B : Nat} (h : lo < B) : (lo + B * hi) / B = hi := by
  rw [Nat.add_mul_div_left _ _ (by omega), Nat.div_eq_of_lt h, Nat.zero_add]
theorem zq_md {s k : Nat} (h : s < 128) : (s + 256 * k) % 128 = s := by omega
theorem zq_md6 {s k : Nat} (h : s < 64) : (s + 256 * k) % 64 = s := by omega
theorem zq_e4 {t0 t1 t2 t3 d : Nat} (h0 : t0 ≤ 8) (h1 : t1 ≤ 8) (h2 : t2 ≤ 8) (h3 : t3 ≤ 8) (ed : d = t0 + 256 * (t1 + 256 * (t2 + 256 * t3))) : d < 268435456 ∧ d + d / 256 < 536870912 ∧ (d + d / 256 + (d + d / 256) / 65536) % 64 = t0 + (t1 + (t2 + t3)) := by
  have e1 : d / 256 = t1 + 256 * (t2 + 256 * t3) := by rw [ed]; exact zq_dv (by omega)
  have e2 : d + d / 256 = (t0 + t1 + 256 * (t1 + t2)) + 65536 * (t2 + t3 + 256 * t3) := by rw [e1, ed]; omega
  have e3 : (d + d / 256) / 65536 = t2 + t3 + 256 * t3 := by rw [e2]; exact zq_dv (by omega)
  refine ⟨by omega, by omega, ?_⟩
  rw [e3, e2, show (t0 + t1 + 256 * (t1 + t2)) + 65536 * (t2 + t3 + 256 * t3) + (t2 + t3 + 256 * t3) = (t0 + (t1 + (t2 + t3))) + 256 * (t1 + t2 + 256 * (t2 + t3 + 256 * t3) + t3) by omega]
  exact zq_md6 (by omega)
theorem zq_e8 {t0 t1 t2 t3 t4 t5 t6 a0 a1 a2 a3 a4 a5 a6 a7 : Nat} (h0 : t0 ≤ 8) (h1 : t1 ≤ 8) (h2 : t2 ≤ 8) (h3 : t3 ≤ 8) (h4 : t4 ≤ 8) (h5 : t5 ≤ 8) (h6 : t6 ≤ 8) (h7 : a7 ≤ 8) (e0 : a0 = t0 + 256 * a1) (e1 : a1 = t1 + 256 * a2) (e2 : a2 = t2 + 256 * a3) (e3 : a3 = t3 + 256 * a4) (e4 : a4 = t4 + 256 * a5) (e5 : a5 = t5 + 256 * a6) (e6 : a6 = t6 + 256 * a7) : a0 / 256 = a1 ∧ (a0 + a1) / 65536 = a2 + a3 ∧ (a0 + a1 + (a2 + a3)) / 4294967296 = a4 + a5 + (a6 + a7) ∧ a0 < 1152921504606846976 ∧ (a0 + a1 + (a2 + a3) + (a4 + a5 + (a6 + a7))) % 128 = t0 + (t1 + (t2 + (t3 + (t4 + (t5 + (t6 + a7)))))) := by
  have p1 : a0 / 256 = a1 := by
    clear e1 e2 e3 e4 e5 e6
    omega
  have b0 : a0 + a1 = (t0 + t1 + 256 * (t1 + t2)) + 65536 * (a2 + a3) := by
    clear p1 e3 e4 e5 e6
    omega
  have b2 : a2 + a3 = (t2 + t3 + 256 * (t3 + t4)) + 65536 * (a4 + a5) := by
    clear p1 b0 e0 e1 e5 e6
    omega
  have b4 : a4 + a5 = (t4 + t5 + 256 * (t5 + t6)) + 65536 * (a6 + a7) := by
    clear p1 b0 b2 e0 e1 e2 e3
    omega
  have b6 : a6 + a7 = t6 + a7 + 256 * a7 := by
    clear p1 b0 b2 b4 e0 e1 e2 e3 e4 e5
    omega
  have k0 : a0 ≤ 578721382704613384 := by
    have k6 : a6 ≤ 2056 := by clear p1 b0 b2 b4 b6 e0 e1 e2 e3 e4 e5; omega
    have k5 : a5 ≤ 526344 := by clear p1 b0 b2 b4 b6 e0 e1 e2 e3 e4 e6; omega
    have k4 : a4 ≤ 134744072 := by clear p1 b0 b2 b4 b6 e0 e1 e2 e3 e5 e6; omega
    have k3 : a3 ≤ 34494482440 := by clear p1 b0 b2 b4 b6 e0 e1 e2 e4 e5 e6; omega
    have k2 : a2 ≤ 8830587504648 := by clear p1 b0 b2 b4 b6 e0 e1 e3 e4 e5 e6; omega
    have k1 : a1 ≤ 2260630401189896 := by clear p1 b0 b2 b4 b6 e0 e2 e3 e4 e5 e6; omega
    clear p1 b0 b2 b4 b6 e1 e2 e3 e4 e5 e6
    omega
  clear e0 e1 e2 e3 e4 e5 e6
  have p2 : (a0 + a1) / 65536 = a2 + a3 := by
    rw [b0]
    exact zq_dv (by clear p1 b0 b2 b4 b6 k0; omega)
  generalize a4 + a5 = x4 at *
  generalize a6 + a7 = x6 at *
  generalize a2 + a3 = x2 at *
  generalize a0 + a1 = x0 at *
  have g1 : x0 + x2 = (t0 + t1 + t2 + t3 + 256 * (t1 + t2 + t3 + t4) + 65536 * (t2 + t3 + t4 + t5 + 256 * (t3 + t4 + t5 + t6))) + 4294967296 * (x4 + x6) := by
    clear p1 p2 k0 b6 h0 h1 h2 h3 h4 h5 h6 h7
    omega
  have p3 : (x0 + x2) / 4294967296 = x4 + x6 := by
    rw [g1]
    exact zq_dv (by clear p1 p2 k0 b0 b2 b4 b6 g1; omega)
  have g2 : x4 + x6 = t4 + t5 + t6 + a7 + 256 * (t5 + t6 + 256 * x6 + a7) := by
    clear p1 p2 p3 k0 g1 b0 b2 h0 h1 h2 h3 h4 h5 h6 h7
    omega
  refine ⟨p1, p2, p3, by clear p1 p2 p3 b0 b2 b4 b6 g1 g2; omega, ?_⟩
  have g3 : x0 + x2 + (x4 + x6) = (t0 + (t1 + (t2 + (t3 + (t4 + (t5 + (t6 + a7))))))) + 256 * (t1 + t2 + t3 + t4 + 256 * (t2 + t3 + t4 + t5 + 256 * (t3 + t4 + t5 + t6)) + 16777216 * (x4 + x6) + (t5 + t6 + 256 * x6 + a7)) := by
    clear p1 p2 p3 k0 b0 b2 b4 b6 h0 h1 h2 h3 h4 h5 h6 h7
    omega
  rw [g3]
  exact zq_md (by clear p1 p2 p3 k0 b0 b2 b4 b6 g1 g2 g3; omega)
theorem zq_D1 (n x : Nat) : zq_D (n + 1) x = zq_T (x % 256) + 256 * zq_D n (x / 256) := rfl
theorem zq_D0 (x : Nat) : zq_D 1 x = zq_T (x % 256) := by
  rw [zq_D1]
  show _ + 256 * 0 = _
  rw [Nat.mul_zero, Nat.add_zero]
theorem zq_S1 (n x : Nat) : zq_S (n + 1) x = zq_T (x % 256) + zq_S n (x / 256) := rfl
theorem zq_S0 (x : Nat) : zq_S 1 x = zq_T (x % 256) := by
  rw [zq_S1]
  show _ + 0 = _
  rw [Nat.add_zero]
theorem zq_D1' (x : Nat) : zq_D 1 x ≤ 8 := by
  rw [zq_D0]
  exact zq_T8 _
theorem zq_fin8 (x : Nat) : zq_D 8 x / 256 = zq_D 7 (x / 256) ∧ (zq_D 8 x + zq_D 7 (x / 256)) / 65536 = zq_D 6 (x / 256 / 256) + zq_D 5 (x / 256 / 256 / 256) ∧ ∃ y, (zq_D 8 x + zq_D 7 (x / 256) + (zq_D 6 (x / 256 / 256) + zq_D 5 (x / 256 / 256 / 256))) / 4294967296 = y ∧ zq_D 8 x < 1152921504606846976 ∧ (zq_D 8 x + zq_D 7 (x / 256) + (zq_D 6 (x / 256 / 256) + zq_D 5 (x / 256 / 256 / 256)) + y) % 128 = zq_S 8 x := by
  obtain ⟨p1, p2, p3, p4, p5⟩ := zq_e8 (zq_T8 _) (zq_T8 _) (zq_T8 _) (zq_T8 _) (zq_T8 _) (zq_T8 _) (zq_T8 _) (zq_D1' _) (zq_D1 7 x) (zq_D1 6 _) (zq_D1 5 _) (zq_D1 4 _) (zq_D1 3 _) (zq_D1 2 _) (zq_D1 1 _)
  refine ⟨p1, p2, _, p3, p4, ?_⟩
  rw [p5, zq_S1, zq_S1, zq_S1, zq_S1, zq_S1, zq_S1, zq_S1, zq_S0, zq_D0]
theorem zq_fin4 (x : Nat) : ∃ y z, zq_D 4 x / 256 = y ∧ (zq_D 4 x + y) / 65536 = z ∧ zq_D 4 x < 268435456 ∧ (zq_D 4 x + y + z) % 64 = zq_S 4 x := by
  have e : zq_D 4 x = zq_T (x % 256) + 256 * (zq_T (x / 256 % 256) + 256 * (zq_T (x / 256 / 256 % 256) + 256 * zq_T (x / 256 / 256 / 256 % 256))) := by
    rw [zq_D1, zq_D1, zq_D1, zq_D0]
  obtain ⟨p1, p2, p3⟩ := zq_e4 (zq_T8 _) (zq_T8 _) (zq_T8 _) (zq_T8 _) e
  refine ⟨_, _, rfl, rfl, p1, ?_⟩
  rw [p3, zq_S1, zq_S1, zq_S1, zq_S0]
/-! the ints -/
theorem zq_u (x : Int32) {k : Nat} (hk : k < 32) : (io_ushr x (nI k)).toBitVec.toNat = x.toBitVec.toNat / 2 ^ k := by
  have : (io_ushr x (nI k)).toBitVec = x.toBitVec >>> k := by
    refine BitVec.eq_of_getLsbD_eq (fun i hi => ?_)
    rw [BitVec.getLsbD_ushiftRight]
    exact b_ushr k hk x i
  rw [this, BitVec.toNat_ushiftRight, Nat.shiftRight_eq_div_pow]
theorem zq_I (x : Int32) (M : mm_T) : ff_JI_bitCount x M = some (nI (fb_ct (bt x) 32)) := by
  have hx : x.toBitVec.toNat < 256 ^ 4 := x.toBitVec.isLt
  obtain ⟨m1, m2, m3⟩ := zq_main 4 _ hx
  obtain ⟨y, z, q1, q2, q3, q4⟩ := zq_fin4 x.toBitVec.toNat
  have hS : fb_ct (bt x) 32 = zq_S 4 x.toBitVec.toNat := zq_sum 4 x.toBitVec.toNat
  unfold ff_JI_bitCount
  simp only [Option.bind_some]
  have c55 : (1431655765 : Int32).toBitVec.toNat = zq_m 0x55 4 := by decide
  have c33 : (858993459 : Int32).toBitVec.toNat = zq_m 0x33 4 := by decide
  have c0f : (252645135 : Int32).toBitVec.toNat = zq_m 0x0f 4 := by decide
  have l55 : zq_m 0x55 4 = 1431655765 := by decide
  have l33 : zq_m 0x33 4 = 858993459 := by decide
  -- the first step
  generalize e1 : x - (io_ushr x 1 &&& 1431655765) = x1
  have n1 : x1.toBitVec.toNat = zq_1 4 x.toBitVec.toNat := by
    rw [← e1, Int32.toBitVec_sub, BitVec.toNat_sub, Int32.toBitVec_and, BitVec.toNat_and, show (1 : Int32) = nI 1 from rfl, zq_u x (by omega), c55, Nat.pow_one]
    unfold zq_1
    have : x.toBitVec.toNat / 2 &&& zq_m 85 4 ≤ x.toBitVec.toNat := m1
    omega
  generalize e2 : (x1 &&& 858993459) + (io_ushr x1 2 &&& 858993459) = x2
  have n2 : x2.toBitVec.toNat = zq_2 4 (zq_1 4 x.toBitVec.toNat) := by
    rw [← e2, Int32.toBitVec_add, BitVec.toNat_add, Int32.toBitVec_and, BitVec.toNat_and, Int32.toBitVec_and, BitVec.toNat_and, show (2 : Int32) = nI 2 from rfl, zq_u x1 (by omega), c33, n1]
    unfold zq_2
    have h1 : zq_1 4 x.toBitVec.toNat &&& zq_m 51 4 ≤ zq_m 51 4 := Nat.and_le_right
    have h2 : zq_1 4 x.toBitVec.toNat / 4 &&& zq_m 51 4 ≤ zq_m 51 4 := Nat.and_le_right
    rw [show 2 ^ 2 = 4 from rfl]
    omega
  have b2 : x2.toBitVec.toNat ≤ 1717986918 := by
    rw [n2]
    unfold zq_2
    have h1 : zq_1 4 x.toBitVec.toNat &&& zq_m 51 4 ≤ zq_m 51 4 := Nat.and_le_right
    have h2 : zq_1 4 x.toBitVec.toNat / 4 &&& zq_m 51 4 ≤ zq_m 51 4 := Nat.and_le_right
    omega
  generalize e3 : x2 + io_ushr x2 4 &&& 252645135 = x3
  have n3 : x3.toBitVec.toNat = zq_D 4 x.toBitVec.toNat := by
    rw [← m3, ← e3, Int32.toBitVec_and, BitVec.toNat_and, Int32.toBitVec_add, BitVec.toNat_add, show (4 : Int32) = nI 4 from rfl, zq_u x2 (by omega), c0f, ← n2]
    unfold zq_3
    rw [show 2 ^ 4 = 16 from rfl, Nat.mod_eq_of_lt (by omega)]
  generalize e4 : x3 + io_ushr x3 8 = x4
  have n4 : x4.toBitVec.toNat = zq_D 4 x.toBitVec.toNat + y := by
    rw [← e4, Int32.toBitVec_add, BitVec.toNat_add, show (8 : Int32) = nI 8 from rfl, zq_u x3 (by omega), n3, show 2 ^ 8 = 256 from rfl, q1]
    omega
  generalize e5 : x4 + io_ushr x4 16 = x5
  have n5 : x5.toBitVec.toNat = zq_D 4 x.toBitVec.toNat + y + z := by
    rw [← e5, Int32.toBitVec_add, BitVec.toNat_add, show (16 : Int32) = nI 16 from rfl, zq_u x4 (by omega), n4, show 2 ^ 16 = 65536 from rfl, q2]
    omega
  rw [hS, ← q4, ← n5]
  congr 1
  refine Int32.toBitVec_inj.mp (BitVec.eq_of_toNat_eq ?_)
  rw [Int32.toBitVec_and, BitVec.toNat_and, show (63 : Int32).toBitVec.toNat = 2 ^ 6 - 1 by decide, Nat.and_two_pow_sub_one_eq_mod]
  show _ = (BitVec.ofNat 32 (x5.toBitVec.toNat % 64)).toNat
  rw [BitVec.toNat_ofNat]
  omega
/-! the longs -/
theorem zq_v (x : Int64) {k : Nat} (hk : k < 64) : (jo_ushr x (nI k)).toBitVec.toNat = x.toBitVec.toNat / 2 ^ k := by
  unfold jo_ushr
  show (x.toUInt64 >>> ((nI k).toInt64.toUInt64 &&& Int64.toUInt64 63)).toNat = _
  rw [UInt64.toNat_shiftRight, wb_cu k hk, u_tn (by omega), Nat.mod_eq_of_lt hk, Nat.shiftRight_eq_div_pow]
  rfl
theorem zq_J (x : Int64) (M : mm_T) : ff_JL_bitCount x M = some (nI (fb_ct (bl x) 64)) := by
  have hx : x.toBitVec.toNat < 256 ^ 8 := x.toBitVec.isLt
  obtain ⟨m1, m2, m3⟩ := zq_main 8 _ hx
  obtain ⟨q1, q2, y, q3, q4, q5⟩ := zq_fin8 x.toBitVec.toNat
  have hS : fb_ct (bl x) 64 = zq_S 8 x.toBitVec.toNat := zq_sum 8 x.toBitVec.toNat
  unfold ff_JL_bitCount
  simp only [Option.bind_some]
  have c55 : (6148914691236517205 : Int64).toBitVec.toNat = zq_m 0x55 8 := by decide
  have c33 : (3689348814741910323 : Int64).toBitVec.toNat = zq_m 0x33 8 := by decide
  have c0f : (1085102592571150095 : Int64).toBitVec.toNat = zq_m 0x0f 8 := by decide
  have l33 : zq_m 0x33 8 = 3689348814741910323 := by decide
  generalize e1 : x - (jo_ushr x 1 &&& 6148914691236517205) = x1
  have n1 : x1.toBitVec.toNat = zq_1 8 x.toBitVec.toNat := by
    rw [← e1, Int64.toBitVec_sub, BitVec.toNat_sub, Int64.toBitVec_and, BitVec.toNat_and, show (1 : Int32) = nI 1 from rfl, zq_v x (by omega), c55, Nat.pow_one]
    unfold zq_1
    have : x.toBitVec.toNat / 2 &&& zq_m 85 8 ≤ x.toBitVec.toNat := m1
    omega
  have h1 : zq_1 8 x.toBitVec.toNat &&& zq_m 51 8 ≤ zq_m 51 8 := Nat.and_le_right
  have h2 : zq_1 8 x.toBitVec.toNat / 4 &&& zq_m 51 8 ≤ zq_m 51 8 := Nat.and_le_right
  generalize e2 : (x1 &&& 3689348814741910323) + (jo_ushr x1 2 &&& 3689348814741910323) = x2
  have n2 : x2.toBitVec.toNat = zq_2 8 (zq_1 8 x.toBitVec.toNat) := by
    rw [← e2, Int64.toBitVec_add, BitVec.toNat_add, Int64.toBitVec_and, BitVec.toNat_and, Int64.toBitVec_and, BitVec.toNat_and, show (2 : Int32) = nI 2 from rfl, zq_v x1 (by omega), c33, n1]
    unfold zq_2
    rw [show 2 ^ 2 = 4 from rfl]
    omega
  have b2 : x2.toBitVec.toNat ≤ 7378697629483820646 := by
    rw [n2]
    unfold zq_2
    omega
  generalize e3 : x2 + jo_ushr x2 4 &&& 1085102592571150095 = x3
  have n3 : x3.toBitVec.toNat = zq_D 8 x.toBitVec.toNat := by
    rw [← m3, ← e3, Int64.toBitVec_and, BitVec.toNat_and, Int64.toBitVec_add, BitVec.toNat_add, show (4 : Int32) = nI 4 from rfl, zq_v x2 (by omega), c0f, ← n2]
    unfold zq_3
    rw [show 2 ^ 4 = 16 from rfl, Nat.mod_eq_of_lt (by omega)]
  generalize zq_D 8 x.toBitVec.toNat = d at *
  generalize zq_D 7 (x.toBitVec.toNat / 256) = d1 at *
  generalize zq_D 6 (x.toBitVec.toNat / 256 / 256) + zq_D 5 (x.toBitVec.toNat / 256 / 256 / 256) = d2 at *
  clear m1 m2 m3 h1 h2 n1 n2 c55 c33 c0f l33
  generalize e4 : x3 + jo_ushr x3 8 = x4
  have n4 : x4.toBitVec.toNat = d + d1 := by
    rw [← e4, Int64.toBitVec_add, BitVec.toNat_add, show (8 : Int32) = nI 8 from rfl, zq_v x3 (by omega), n3, show 2 ^ 8 = 256 from rfl, q1]
    omega
  generalize e5 : x4 + jo_ushr x4 16 = x5
  have n5 : x5.toBitVec.toNat = d + d1 + d2 := by
    rw [← e5, Int64.toBitVec_add, BitVec.toNat_add, show (16 : Int32) = nI 16 from rfl, zq_v x4 (by omega), n4, show 2 ^ 16 = 65536 from rfl, q2]
    omega
  generalize e6 : x5 + jo_ushr x5 32 = x6
  have n6 : x6.toBitVec.toNat = d + d1 + d2 + y := by
    rw [← e6, Int64.toBitVec_add, BitVec.toNat_add, show (32 : Int32) = nI 32 from rfl, zq_v x5 (by omega), n5, show 2 ^ 32 = 4294967296 from rfl, q3]
    omega
  rw [hS, ← q5, ← n6]
  congr 1
  refine Int32.toBitVec_inj.mp (BitVec.eq_of_toNat_eq ?_)
  rw [Int32.toBitVec_and, BitVec.toNat_and, show (127 : Int32).toBitVec.toNat = 2 ^ 7 - 1 by decide, Nat.and_two_pow_sub_one_eq_mod]
  show (x6.toBitVec.signExtend 32).toNat % 2 ^ 7 = (BitVec.ofNat 32 (x6.toBitVec.toNat % 128)).toNat
  rw [BitVec.toNat_ofNat]
  have e : (x6.toBitVec.signExtend 32).toNat = x6.toBitVec.toNat % 2 ^ 32 := by
    rw [BitVec.signExtend_eq_setWidth_of_le _ (by omega), BitVec.toNat_setWidth]
  rw [e, Nat.mod_mod_of_dvd _ (show 2 ^ 7 ∣ 2 ^ 32 from ⟨2 ^ 25, by decide⟩), Nat.mod_eq_of_lt (show x6.toBitVec.toNat % 128 < 2 ^ 32 from Nat.lt_trans (Nat.mod_lt _ (by decide)) (by decide))]
