/-! ===== the small memory and what the pure functions do with it ===== -/
abbrev mm_T : Type := Nat × Nat × Nat × (Nat → Nat × Nat) × (Nat → Nat → Int32) × (Nat → Nat → Int64) × (Nat → Nat → Nat)
def mm_n (M : mm_T) : Nat := M.1
def mm_c (M : mm_T) : Nat := M.2.1
def mm_u (M : mm_T) : Nat := M.2.2.1
def mm_K (M : mm_T) : Nat → Nat × Nat := M.2.2.2.1
def mm_I (M : mm_T) : Nat → Nat → Int32 := M.2.2.2.2.1
def mm_J (M : mm_T) : Nat → Nat → Int64 := M.2.2.2.2.2.1
def mm_R (M : mm_T) : Nat → Nat → Nat := M.2.2.2.2.2.2
def mm_k (M : mm_T) (a : Nat) : Nat × Nat := if 1 ≤ a ∧ a ≤ mm_n M then mm_K M a else (99, 0)
def mm_u2 {α : Type} (f : Nat → Nat → α) (a k : Nat) (v : α) : Nat → Nat → α := fun x y => if x = a ∧ y = k then v else f x y
def mm_sI (M : mm_T) (a k : Nat) (v : Int32) : mm_T := (mm_n M, mm_c M, mm_u M, mm_K M, mm_u2 (mm_I M) a k v, mm_J M, mm_R M)
def mm_sJ (M : mm_T) (a k : Nat) (v : Int64) : mm_T := (mm_n M, mm_c M, mm_u M, mm_K M, mm_I M, mm_u2 (mm_J M) a k v, mm_R M)
def mm_sR (M : mm_T) (a k : Nat) (v : Nat) : mm_T := (mm_n M, mm_c M, mm_u M, mm_K M, mm_I M, mm_J M, mm_u2 (mm_R M) a k v)
/-- a new cell, number mm_n M + 1, all zero -/
def mm_al (M : mm_T) (kd : Nat × Nat) (w : Nat) : mm_T := (mm_n M + 1, mm_c M + 1, mm_u M + w, (fun a => if a = mm_n M + 1 then kd else mm_K M a), (fun a j => if a = mm_n M + 1 then 0 else mm_I M a j), (fun a j => if a = mm_n M + 1 then 0 else mm_J M a j), (fun a j => if a = mm_n M + 1 then 0 else mm_R M a j))
/-- an exception was made -/
def mm_ex (M : mm_T) : mm_T := (mm_n M, mm_c M + 1, mm_u M + 6, mm_K M, mm_I M, mm_J M, mm_R M)
/-- from here on the numbers are those of text constants -/
def st_B : Nat := 10000000
def mm_wf (M : mm_T) : Prop := mm_n M < st_B ∧ ∀ a j, mm_R M a j ≤ mm_n M
/-- numbers of fields -/
def kn_N (c : Nat) : Nat := [4, 3, 7, 3, 3, 7, 10, 8, 4, 2, 12, 25].getD c 0
def io_shl (x y : Int32) : Int32 := x <<< (y &&& 31)
def io_shr (x y : Int32) : Int32 := x >>> (y &&& 31)
def io_ushr (x y : Int32) : Int32 := (x.toUInt32 >>> (y.toUInt32 &&& Int32.toUInt32 31)).toInt32
def jo_shl (x : Int64) (y : Int32) : Int64 := x <<< (y.toInt64 &&& 63)
def jo_ushr (x : Int64) (y : Int32) : Int64 := (x.toUInt64 >>> (y.toInt64.toUInt64 &&& Int64.toUInt64 63)).toInt64
def io_rem (x y : Int32) : Int32 := x - x / y * y
/-- a boolean: 0 or 1 -/
def zb_Z (v : Int32) : Option Int32 := if v = 0 ∨ v = 1 then some v else none
def io_divG (x y : Int32) : Option Int32 := if y = 0 then none else some (x / y)
def io_remG (x y : Int32) : Option Int32 := if y = 0 then none else some (io_rem x y)
def fo_div (x y : UInt32) : Option UInt32 := if (FP.fdiv x y) &&& 0x7fffffff ≤ 0x7f800000 then some (FP.fdiv x y) else none
def do_div (x y : UInt64) : Option UInt64 := if (FP.ddiv x y) &&& 0x7fffffffffffffff ≤ 0x7ff0000000000000 then some (FP.ddiv x y) else none
def do_f2d (x : UInt32) : Option UInt64 := if (FP.f2d x) &&& 0x7fffffffffffffff ≤ 0x7ff0000000000000 then some (FP.f2d x) else none
def gf_I (M : mm_T) (a c k : Nat) : Option Int32 := if (mm_k M a).1 = c then some (mm_I M a k) else none
def gf_R (M : mm_T) (a c k : Nat) : Option Nat := if (mm_k M a).1 = c then some (mm_R M a k) else none
def pf_I (M : mm_T) (a c k : Nat) (v : Int32) : Option mm_T := if (mm_k M a).1 = c then some (mm_sI M a k v) else none
def pf_Z (M : mm_T) (a c k : Nat) (v : Int32) : Option mm_T := if (mm_k M a).1 = c ∧ (v = 0 ∨ v = 1) then some (mm_sI M a k v) else none
def pf_R (M : mm_T) (a c k : Nat) (r : Nat) : Option mm_T := if (mm_k M a).1 = c ∧ r ≤ mm_n M then some (mm_sR M a k r) else none
def in_r (j : Int32) (n : Nat) : Prop := 0 ≤ j.toInt ∧ j.toInt < n
def ar_I (M : mm_T) (a : Nat) (j : Int32) : Option Int32 := if (mm_k M a).1 = 20 ∧ 0 ≤ j.toInt ∧ j.toInt < (mm_k M a).2 then some (mm_I M a j.toInt.toNat) else none
def ar_J (M : mm_T) (a : Nat) (j : Int32) : Option Int64 := if (mm_k M a).1 = 21 ∧ 0 ≤ j.toInt ∧ j.toInt < (mm_k M a).2 then some (mm_J M a j.toInt.toNat) else none
def ar_Z (M : mm_T) (a : Nat) (j : Int32) : Option Int32 := if (mm_k M a).1 = 22 ∧ 0 ≤ j.toInt ∧ j.toInt < (mm_k M a).2 then some (mm_I M a j.toInt.toNat) else none
def ar_R (M : mm_T) (a : Nat) (j : Int32) : Option Nat := if (mm_k M a).1 = 23 ∧ 0 ≤ j.toInt ∧ j.toInt < (mm_k M a).2 then some (mm_R M a j.toInt.toNat) else none
def aw_I (M : mm_T) (a : Nat) (j : Int32) (v : Int32) : Option mm_T := if (mm_k M a).1 = 20 ∧ 0 ≤ j.toInt ∧ j.toInt < (mm_k M a).2 then some (mm_sI M a j.toInt.toNat v) else none
def aw_J (M : mm_T) (a : Nat) (j : Int32) (v : Int64) : Option mm_T := if (mm_k M a).1 = 21 ∧ 0 ≤ j.toInt ∧ j.toInt < (mm_k M a).2 then some (mm_sJ M a j.toInt.toNat v) else none
def aw_Z (M : mm_T) (a : Nat) (j : Int32) (v : Int32) : Option mm_T := if (mm_k M a).1 = 22 ∧ (0 ≤ j.toInt ∧ j.toInt < (mm_k M a).2) ∧ (v = 0 ∨ v = 1) then some (mm_sI M a j.toInt.toNat v) else none
def aw_R (M : mm_T) (a : Nat) (j : Int32) (r : Nat) : Option mm_T := if (mm_k M a).1 = 23 ∧ (0 ≤ j.toInt ∧ j.toInt < (mm_k M a).2) ∧ (mm_k M r).1 = 7 then some (mm_sR M a j.toInt.toNat r) else none
def al_N (M : mm_T) (a : Nat) : Option Int32 := if 20 ≤ (mm_k M a).1 ∧ (mm_k M a).1 ≤ 23 then some (Int32.ofNat (mm_k M a).2) else none
def na_K (kd : Nat) (M : mm_T) (n : Int32) : Option (Nat × mm_T) := if (0 ≤ n.toInt ∧ n.toInt ≤ 100000) ∧ mm_n M + 1 < st_B then some (mm_n M + 1, mm_al M (kd, n.toInt.toNat) n.toInt.toNat) else none
def no_C (c : Nat) (M : mm_T) : Option (Nat × mm_T) := if mm_n M + 1 < st_B then some (mm_n M + 1, mm_al M (c, 0) (kn_N c)) else none
def bd_2 {α β ρ : Type} (Y : Option (α × β)) (k : α → β → Option ρ) : Option ρ := Y.bind fun y => k y.1 y.2
def fu_L : Nat := 1000000
def jp_J {α ρ : Type} (Y : α) (B : α → Option ρ) : Option ρ := B Y
def gd_G {ρ : Type} (M : mm_T) (a c : Nat) (X : Option ρ) : Option ρ := if (mm_k M a).1 = c then X else none
def rq_X {V : Type} (Y : Option (Option String)) (M : mm_T) (k : Option ((V ⊕ String) × mm_T)) : Option ((V ⊕ String) × mm_T) := Y.bind fun y => match y with
  | none => k
  | some E => some (.inr E, mm_ex M)
def cs_X {V ρ : Type} (Y : Option ((V ⊕ String) × mm_T)) (kf : V → mm_T → Option ρ) (kx : String → mm_T → Option ρ) : Option ρ := Y.bind fun y => match y.1 with
  | .inl v => kf v y.2
  | .inr E => kx E y.2
def gs_N : Nat := 31
def gs_byt : List (List Int32) := [[98, 108, 111, 99, 107, 59, 32, 115, 101, 116, 32, 97, 32, 53, 59, 32, 115, 101, 116, 32, 98, 32, 49, 59, 32, 115, 101, 116, 32, 100, 32, 55, 59, 32, 103, 111, 116, 111, 32, 49, 59, 32, 98, 108, 111, 99, 107, 59, 32, 99, 97, 108, 99, 32, 99, 32, 97, 32, 112, 108, 117, 115, 32, 98, 59, 32, 98, 114, 97, 110, 99, 104, 32, 97, 32, 50, 32, 51, 59, 32, 98, 108, 111, 99, 107, 59, 32, 99, 97, 108, 99, 32, 97, 32, 97, 32, 109, 105, 110, 117, 115, 32, 98, 59, 32, 99, 97, 108, 99, 32, 101, 32, 97, 32, 112, 108, 117, 115, 32, 98, 59, 32, 103, 111, 116, 111, 32, 49, 59, 32, 98, 108, 111, 99, 107, 59, 32, 115, 104, 111, 119, 32, 99, 59, 32, 109, 111, 118, 101, 32, 102, 32, 100, 59, 32, 115, 116, 111, 112, 59],
  [98, 108, 111, 99, 107],
  [115, 101, 116],
  [109, 111, 118, 101],
  [99, 97, 108, 99],
  [115, 104, 111, 119],
  [112, 108, 117, 115],
  [109, 105, 110, 117, 115],
  [116, 105, 109, 101, 115],
  [115, 116, 111, 112],
  [103, 111, 116, 111],
  [98, 114, 97, 110, 99, 104],
  [116, 104, 101, 32, 116, 101, 120, 116, 32, 98, 117, 102, 102, 101, 114, 32, 105, 115, 32, 102, 117, 108, 108],
  [110, 111, 32, 115, 117, 99, 104, 32, 108, 101, 110, 103, 116, 104],
  [110, 111, 32, 115, 117, 99, 104, 32, 98, 108, 111, 99, 107],
  [110, 111, 32, 115, 117, 99, 104, 32, 105, 110, 115, 116, 114, 117, 99, 116, 105, 111, 110],
  [116, 104, 101, 32, 101, 120, 105, 116, 32, 104, 97, 115, 32, 110, 111, 32, 115, 117, 99, 104, 32, 115, 117, 99, 99, 101, 115, 115, 111, 114],
  [110, 111, 32, 115, 117, 99, 104, 32, 118, 97, 114, 105, 97, 98, 108, 101],
  [116, 104, 101, 32, 105, 110, 115, 116, 114, 117, 99, 116, 105, 111, 110, 32, 104, 97, 115, 32, 110, 111, 32, 115, 117, 99, 104, 32, 111, 112, 101, 114, 97, 110, 100],
  [110, 111, 32, 115, 117, 99, 104, 32, 108, 105, 109, 105, 116],
  [110, 111, 32, 115, 117, 99, 104, 32, 110, 117, 109, 98, 101, 114, 32, 111, 102, 32, 115, 116, 101, 112, 115],
  [110, 111, 32, 115, 117, 99, 104, 32, 112, 111, 115, 105, 116, 105, 111, 110, 32, 105, 110, 32, 116, 104, 101, 32, 98, 108, 111, 99, 107],
  [110, 111, 32, 115, 117, 99, 104, 32, 99, 111, 110, 115, 116, 97, 110, 116],
  [116, 104, 101, 32, 112, 114, 111, 103, 114, 97, 109, 32, 104, 97, 115, 32, 52, 48, 32, 105, 110, 115, 116, 114, 117, 99, 116, 105, 111, 110, 115],
  [110, 111, 32, 115, 117, 99, 104, 32, 111, 112, 101, 114, 97, 116, 111, 114],
  [32, 112, 108, 117, 115],
  [32, 109, 105, 110, 117, 115],
  [32, 116, 105, 109, 101, 115],
  [110, 111, 32, 97, 99, 116, 105, 111, 110, 32, 99, 97, 110, 32, 98, 101, 32, 117, 110, 100, 111, 110, 101],
  [110, 111, 32, 115, 117, 99, 104, 32, 115, 110, 97, 112, 115, 104, 111, 116, 32, 110, 117, 109, 98, 101, 114],
  [116, 104, 101, 114, 101, 32, 105, 115, 32, 110, 111, 32, 115, 117, 99, 104, 32, 115, 110, 97, 112, 115, 104, 111, 116]]
def gs_len : List Nat := [160, 5, 3, 4, 4, 4, 4, 5, 5, 4, 4, 6, 23, 14, 13, 19, 30, 16, 35, 13, 23, 29, 16, 31, 16, 5, 6, 6, 23, 23, 25]
def ff_JS_length (r : Nat) (_ : mm_T) : Option Int32 := if st_B ≤ r ∧ r < st_B + gs_N then some (Int32.ofNat (gs_len.getD (r - st_B) 0)) else none
def ff_JS_charAt (r : Nat) (j : Int32) (_ : mm_T) : Option Int32 := if (st_B ≤ r ∧ r < st_B + gs_N) ∧ 0 ≤ j.toInt ∧ j.toInt < gs_len.getD (r - st_B) 0 then some ((gs_byt.getD (r - st_B) []).getD j.toInt.toNat 0) else none
